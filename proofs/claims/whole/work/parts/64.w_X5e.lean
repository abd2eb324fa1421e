def rm_X5_soonest : Room := { frames := 1, cells := 0, slots := 0, locals := 22 }
set_option maxHeartbeats 4000000 in
set_option maxRecDepth 100000 in
theorem b_X5_soonest {p : Program} {l : Launch} {e : Env} {s : State} {m : MethodId} {args : Array Value} {below : List Frame} {meth : Method} {c : Code} {Q : State → Prop} (E : mx_E) (a_t : Nat) (a_storey : Nat) (a_wind : Nat) (a_pair : Nat) (a_text : Nat) (a_read : Nat) (a_now : Nat) (a_image : Nat) (a_isKept : Nat) (a_row : Nat) (a_sight : Nat) (a_ways : Nat) (a_ends : Nat) (a_tried : Nat) (v_storeys : Int32) (v_jacks : Int32) (v_soft : Int32) (v_pairs : Int32) (v_bytes : Int32) (v_position : Int32) (v_tokenAt : Int32) (v_token : Int64) (v_digits : Int32) (v_number : Int32) (v_faultAt : Int32) (v_readMany : Int32) (v_readStoreys : Int32) (v_readPairs : Int32) (v_rows : Int32) (v_sights : Int32) (v_wind : (Nat → Int32)) (x1 : Int32) (post : Int32 → Prop) (hB : mx_B p m c cX5_soonest 4 s args RX5 E) (hP : va_P E.1 vwCl (w_X5_soonest E a_t a_storey a_wind a_pair a_text a_read a_now a_image a_isKept a_row a_sight a_ways a_ends a_tried v_storeys v_jacks v_soft v_pairs v_bytes v_position v_tokenAt v_token v_digits v_number v_faultAt v_readMany v_readStoreys v_readPairs v_rows v_sights v_wind) s.heap) (hRet : ∀ (v : Int32) (pc : Nat) (ls : Array Slot), decode cX5_soonest pc = .ok (.ireturn, 1) → post v → W p l e rm_X5_soonest s m args below meth c s.heap [] 0 0 Q (F0 m pc ls [.int v])) (hf : f_X5_soonest v_wind x1 post) (ls : Array Slot) (hl : lv_has ls 4 [(0, .ref a_t), (1, .int x1)]) : W p l e rm_X5_soonest s m args below meth c s.heap [] 0 0 Q (F0 m 0 ls []) := by
  have hx := hB.x
  have hb := hB.b
  have J_45 : ∀ (j45_x3 : Int32) (ls : Array Slot), f_X5_soonest_45 v_wind post j45_x3 → lv_has ls 4 [(3, .int j45_x3)] → W p l e rm_X5_soonest s m args below meth c s.heap [] 0 0 Q (F0 m 45 ls []) := by
    intro j45_x3 ls hf hl
    refine lv_iload_n hx hb dX5_soonest_45 rfl (lv_at hl 0 rfl) ?_
    refine lv_iconst hx hb dX5_soonest_46 kc_i_1 ?_
    refine lv_isub hx hb dX5_soonest_47 ?_
    exact hRet (j45_x3 - 1) 48 ls dX5_soonest_48 hf
  have L_17 : ∀  (n : Nat) (j17_x2 : Int32) (j17_x3 : Int32) (ls : Array Slot), mx_l2 (f_X5_soonest_17 v_wind post) n j17_x2 j17_x3 → lv_has ls 4 [(0, .ref a_t), (2, .int j17_x2), (3, .int j17_x3)] → W p l e rm_X5_soonest s m args below meth c s.heap [] 0 0 Q (F0 m 17 ls []) := by
    intro  n_17
    induction n_17 with
    | zero =>
      intro j17_x2 j17_x3 ls hf hl
      exact False.elim hf
    | succ n_17 ih_17 =>
      have J_37 : ∀ (j37_x3 : Int32) (j37_k0 : Int32) (j37_k1 : Int32) (ls : Array Slot), f_X5_soonest_37 v_wind (mx_l2 (f_X5_soonest_17 v_wind post) n_17) post j37_x3 j37_k0 j37_k1 → lv_has ls 4 [(0, .ref a_t), (3, .int j37_x3)] → W p l e rm_X5_soonest s m args below meth c s.heap [] 0 0 Q (F0 m 37 ls [.int j37_k1, .int j37_k0]) := by
        intro j37_x3 j37_k0 j37_k1 ls hf hl
        refine lv_isub hx hb dX5_soonest_37 ?_
        refine lv_istore_n (lv' := [(2, .int (j37_k0 - j37_k1)), (0, .ref a_t), (3, .int j37_x3)]) hx hb dX5_soonest_38 rfl hl (by decide) rfl (fun ls hl => ?_)
        refine lv_iinc (v := j37_x3 + 1) (lv' := [(3, .int (j37_x3 + 1)), (2, .int (j37_k0 - j37_k1)), (0, .ref a_t)]) hx hb dX5_soonest_39 hl (k := 2) rfl (by rw [kc_i_1]) (by decide) rfl (fun ls hl => ?_)
        refine lv_goto (tgt := 17) hx hb dX5_soonest_42 (by decide) ?_
        exact ih_17 (j37_k0 - j37_k1) (j37_x3 + 1) ls hf (lv_sub hl [2, 1, 0] rfl)
      intro j17_x2 j17_x3 ls hf hl
      replace hf : f_X5_soonest_17 v_wind post (mx_l2 (f_X5_soonest_17 v_wind post) n_17) j17_x2 j17_x3 := hf
      refine lv_iload_n hx hb dX5_soonest_17 rfl (lv_at hl 1 rfl) ?_
      refine lv_if_le (tgt := 45) hx hb dX5_soonest_18 (by decide) (fun c18 => ?_) (fun c18 => ?_)
      · have hf := hf.1 c18
        exact J_45 j17_x3 ls hf (lv_sub hl [2] rfl)
      · have hf := hf.2 c18
        refine lv_iload_n hx hb dX5_soonest_21 rfl (lv_at hl 1 rfl) ?_
        refine lv_aload_n hx hb dX5_soonest_22 rfl (lv_at hl 0 rfl) ?_
        refine lv_iload_n hx hb dX5_soonest_23 rfl (lv_at hl 2 rfl) ?_
        refine mx_gi (mx_runV (As := [.int j17_x3]) (rest := [.int j17_x2]) hB (c_X5_windOf l E a_t a_storey a_wind a_pair a_text a_read a_now a_image a_isKept a_row a_sight a_ways a_ends a_tried v_storeys v_jacks v_soft v_pairs v_bytes v_position v_tokenAt v_token v_digits v_number v_faultAt v_readMany v_readStoreys v_readPairs v_rows v_sights v_wind j17_x3 _ hf) sB_X5_windOf sV_X5_windOf wml_X5_200 rfl (mx_ppV hB hP [0, 1] rfl 5 rfl rfl rfl) hl.1 rfl (Nat.le_of_ble_eq_true rfl) dX5_soonest_24 ⟨Nat.zero_le _, Nat.zero_le _⟩) (fun r1 hf => ?_)
        refine lv_bipush hx hb dX5_soonest_27 kc_b_9 ?_
        refine lv_icmp_ne (tgt := 36) hx hb dX5_soonest_29 (by decide) (fun c29 => ?_) (fun c29 => ?_)
        · have hf := hf.1 c29
          refine lv_iconst hx hb dX5_soonest_36 kc_i_1 ?_
          exact J_37 j17_x3 j17_x2 1 ls hf (lv_sub hl [0, 2] rfl)
        · have hf := hf.2 c29
          refine lv_iconst hx hb dX5_soonest_32 kc_i_0 ?_
          refine lv_goto (tgt := 37) hx hb dX5_soonest_33 (by decide) ?_
          exact J_37 j17_x3 j17_x2 0 ls hf (lv_sub hl [0, 2] rfl)
  refine lv_iload_n hx hb dX5_soonest_0 rfl (lv_at hl 1 rfl) ?_
  refine lv_iconst hx hb dX5_soonest_1 kc_i_1 ?_
  refine lv_bipush hx hb dX5_soonest_2 kc_b_8 ?_
  refine mx_gi (mx_runS (As := [.int x1, .int 1, .int 8]) (rest := []) hB (c_X5_in1 l E x1 1 8 _ hf) sB_X5_in1 wst_X5_in1 wml_X5_60 rfl (mx_pp hB hP [] rfl) hl.1 rfl (Nat.le_of_ble_eq_true rfl) dX5_soonest_4 ⟨Nat.zero_le _, Nat.zero_le _⟩) (fun r1 hf => ?_)
  refine lv_if_ne (tgt := 13) hx hb dX5_soonest_7 (by decide) (fun c7 => ?_) (fun c7 => ?_)
  · have hf := hf.1 c7
    refine lv_iload_n hx hb dX5_soonest_13 rfl (lv_at hl 1 rfl) ?_
    refine lv_istore_n (lv' := [(2, .int x1), (0, .ref a_t), (1, .int x1)]) hx hb dX5_soonest_14 rfl hl (by decide) rfl (fun ls hl => ?_)
    refine lv_iconst hx hb dX5_soonest_15 kc_i_0 ?_
    refine lv_istore_n (lv' := [(3, .int 0), (2, .int x1), (0, .ref a_t), (1, .int x1)]) hx hb dX5_soonest_16 rfl hl (by decide) rfl (fun ls hl => ?_)
    obtain ⟨n9, hf⟩ := hf
    exact L_17  n9 x1 0 ls hf (lv_sub hl [2, 1, 0] rfl)
  · have hf := hf.2 c7
    refine lv_bipush hx hb dX5_soonest_10 kc_b_m3 ?_
    exact hRet (-3) 12 ls dX5_soonest_12 hf
theorem c_X5_soonest (l : Launch) (E : mx_E) (a_t : Nat) (a_storey : Nat) (a_wind : Nat) (a_pair : Nat) (a_text : Nat) (a_read : Nat) (a_now : Nat) (a_image : Nat) (a_isKept : Nat) (a_row : Nat) (a_sight : Nat) (a_ways : Nat) (a_ends : Nat) (a_tried : Nat) (v_storeys : Int32) (v_jacks : Int32) (v_soft : Int32) (v_pairs : Int32) (v_bytes : Int32) (v_position : Int32) (v_tokenAt : Int32) (v_token : Int64) (v_digits : Int32) (v_number : Int32) (v_faultAt : Int32) (v_readMany : Int32) (v_readStoreys : Int32) (v_readPairs : Int32) (v_rows : Int32) (v_sights : Int32) (v_wind : (Nat → Int32)) (x1 : Int32) (post : Int32 → Prop) (hf : f_X5_soonest v_wind x1 post) : Met l yX5_soonest (Cond.code yX5_soonest cX5_soonest 4 (some .int) :: mx_WS) rm_X5_soonest (va_Pc [.ref a_t, .int x1] (mx_Pp E (w_X5_soonest E a_t a_storey a_wind a_pair a_text a_read a_now a_image a_isKept a_row a_sight a_ways a_ends a_tried v_storeys v_jacks v_soft v_pairs v_bytes v_position v_tokenAt v_token v_digits v_number v_faultAt v_readMany v_readStoreys v_readPairs v_rows v_sights v_wind))) (vp_Si post) 0 0 (fun _ => False) :=
  mx_metPi (by decide) rfl rfl (fun hB hP hRet ls hl => b_X5_soonest E a_t a_storey a_wind a_pair a_text a_read a_now a_image a_isKept a_row a_sight a_ways a_ends a_tried v_storeys v_jacks v_soft v_pairs v_bytes v_position v_tokenAt v_token v_digits v_number v_faultAt v_readMany v_readStoreys v_readPairs v_rows v_sights v_wind x1 post hB hP hRet hf ls hl)
def rm_X5_chooseOf : Room := { frames := 0, cells := 0, slots := 0, locals := 0 }
set_option maxHeartbeats 4000000 in
set_option maxRecDepth 100000 in
theorem b_X5_chooseOf {p : Program} {l : Launch} {e : Env} {s : State} {m : MethodId} {args : Array Value} {below : List Frame} {meth : Method} {c : Code} {Q : State → Prop} (E : mx_E)   (x0 : Int32) (x1 : Int32) (post : Int64 → Prop) (hB : mx_B p m c cX5_chooseOf 5 s args RX5 E) (hP : va_P E.1 vwCl (w_X5_chooseOf E ) s.heap) (hRet : ∀ (v : Int64) (pc : Nat) (ls : Array Slot), decode cX5_chooseOf pc = .ok (.lreturn, 1) → post v → W p l e rm_X5_chooseOf s m args below meth c s.heap [] 0 0 Q (F0 m pc ls [.long v])) (hf : f_X5_chooseOf x0 x1 post) (ls : Array Slot) (hl : lv_has ls 5 [(0, .int x0), (1, .int x1)]) : W p l e rm_X5_chooseOf s m args below meth c s.heap [] 0 0 Q (F0 m 0 ls []) := by
  have hx := hB.x
  have hb := hB.b
  have L_5 : ∀ (g5_x0 : Int32) (g5_x1 : Int32) (n : Nat) (j5_y2 : Int64) (j5_x4 : Int32) (ls : Array Slot), mx_l2 (f_X5_chooseOf_5 post g5_x0 g5_x1) n j5_y2 j5_x4 → lv_has ls 5 [(0, .int g5_x0), (1, .int g5_x1), (2, .long j5_y2), (4, .int j5_x4)] → W p l e rm_X5_chooseOf s m args below meth c s.heap [] 0 0 Q (F0 m 5 ls []) := by
    intro g5_x0 g5_x1 n_5
    induction n_5 with
    | zero =>
      intro j5_y2 j5_x4 ls hf hl
      exact False.elim hf
    | succ n_5 ih_5 =>
      intro j5_y2 j5_x4 ls hf hl
      replace hf : f_X5_chooseOf_5 post g5_x0 g5_x1 (mx_l2 (f_X5_chooseOf_5 post g5_x0 g5_x1) n_5) j5_y2 j5_x4 := hf
      refine lv_iload hx hb dX5_chooseOf_5 (lv_at hl 3 rfl) ?_
      refine lv_iload_n hx hb dX5_chooseOf_7 rfl (lv_at hl 1 rfl) ?_
      refine lv_icmp_gt (tgt := 31) hx hb dX5_chooseOf_8 (by decide) (fun c8 => ?_) (fun c8 => ?_)
      · have hf := hf.1 c8
        refine lv_lload_n hx hb dX5_chooseOf_31 rfl (lv_at hl 2 rfl) ?_
        exact hRet j5_y2 32 ls dX5_chooseOf_32 hf
      · have hf := hf.2 c8
        refine lv_lload_n hx hb dX5_chooseOf_11 rfl (lv_at hl 2 rfl) ?_
        refine lv_iload_n hx hb dX5_chooseOf_12 rfl (lv_at hl 0 rfl) ?_
        refine lv_iload_n hx hb dX5_chooseOf_13 rfl (lv_at hl 1 rfl) ?_
        refine lv_isub hx hb dX5_chooseOf_14 ?_
        refine lv_iload hx hb dX5_chooseOf_15 (lv_at hl 3 rfl) ?_
        refine lv_iadd hx hb dX5_chooseOf_17 ?_
        refine lv_i2l hx hb dX5_chooseOf_18 rfl ?_
        refine lv_lmul hx hb dX5_chooseOf_19 ?_
        refine lv_iload hx hb dX5_chooseOf_20 (lv_at hl 3 rfl) ?_
        refine lv_i2l hx hb dX5_chooseOf_22 rfl ?_
        obtain ⟨h_nz, hf⟩ := hf
        refine lv_ldiv hx hb dX5_chooseOf_23 h_nz ?_
        refine lv_lstore_n (lv' := [(2, .long ((j5_y2 * (((g5_x0 - g5_x1) + j5_x4).toInt64)) / j5_x4.toInt64)), (0, .int g5_x0), (1, .int g5_x1), (4, .int j5_x4)]) hx hb dX5_chooseOf_24 rfl hl (by decide) rfl (fun ls hl => ?_)
        refine lv_iinc (v := j5_x4 + 1) (lv' := [(4, .int (j5_x4 + 1)), (2, .long ((j5_y2 * (((g5_x0 - g5_x1) + j5_x4).toInt64)) / j5_x4.toInt64)), (0, .int g5_x0), (1, .int g5_x1)]) hx hb dX5_chooseOf_25 hl (k := 3) rfl (by rw [kc_i_1]) (by decide) rfl (fun ls hl => ?_)
        refine lv_goto (tgt := 5) hx hb dX5_chooseOf_28 (by decide) ?_
        exact ih_5 ((j5_y2 * (((g5_x0 - g5_x1) + j5_x4).toInt64)) / j5_x4.toInt64) (j5_x4 + 1) ls hf (lv_sub hl [2, 3, 1, 0] rfl)
  refine lv_lconst hx hb dX5_chooseOf_0 kc_l_1 ?_
  refine lv_lstore_n (lv' := [(2, .long 1), (0, .int x0), (1, .int x1)]) hx hb dX5_chooseOf_1 rfl hl (by decide) rfl (fun ls hl => ?_)
  refine lv_iconst hx hb dX5_chooseOf_2 kc_i_1 ?_
  refine lv_istore (lv' := [(4, .int 1), (2, .long 1), (0, .int x0), (1, .int x1)]) hx hb dX5_chooseOf_3 hl (by decide) rfl (fun ls hl => ?_)
  obtain ⟨n9, hf⟩ := hf
  exact L_5 x0 x1 n9 1 1 ls hf (lv_sub hl [2, 3, 1, 0] rfl)
theorem c_X5_chooseOf (l : Launch) (E : mx_E)   (x0 : Int32) (x1 : Int32) (post : Int64 → Prop) (hf : f_X5_chooseOf x0 x1 post) : Met l yX5_chooseOf (Cond.code yX5_chooseOf cX5_chooseOf 5 (some .long) :: mx_WS) rm_X5_chooseOf (va_Pc [.int x0, .int x1] (mx_Pp E (w_X5_chooseOf E ))) (vp_Sl post) 0 0 (fun _ => False) :=
  mx_metPl (by decide) rfl rfl (fun hB hP hRet ls hl => b_X5_chooseOf E  x0 x1 post hB hP hRet hf ls hl)
def rm_X5_odds : Room := { frames := 1, cells := 0, slots := 0, locals := 24 }
set_option maxHeartbeats 4000000 in
set_option maxRecDepth 100000 in
theorem b_X5_odds {p : Program} {l : Launch} {e : Env} {s : State} {m : MethodId} {args : Array Value} {below : List Frame} {meth : Method} {c : Code} {Q : State → Prop} (E : mx_E) (a_t : Nat) (a_storey : Nat) (a_wind : Nat) (a_pair : Nat) (a_text : Nat) (a_read : Nat) (a_now : Nat) (a_image : Nat) (a_isKept : Nat) (a_row : Nat) (a_sight : Nat) (a_ways : Nat) (a_ends : Nat) (a_tried : Nat) (v_storeys : Int32) (v_jacks : Int32) (v_soft : Int32) (v_pairs : Int32) (v_bytes : Int32) (v_position : Int32) (v_tokenAt : Int32) (v_token : Int64) (v_digits : Int32) (v_number : Int32) (v_faultAt : Int32) (v_readMany : Int32) (v_readStoreys : Int32) (v_readPairs : Int32) (v_rows : Int32) (v_sights : Int32) (x1 : Int32) (x2 : Int32) (x3 : Int32) (x4 : Int32) (post : Int64 → Prop) (hB : mx_B p m c cX5_odds 15 s args RX5 E) (hP : va_P E.1 vwCl (w_X5_odds E a_t a_storey a_wind a_pair a_text a_read a_now a_image a_isKept a_row a_sight a_ways a_ends a_tried v_storeys v_jacks v_soft v_pairs v_bytes v_position v_tokenAt v_token v_digits v_number v_faultAt v_readMany v_readStoreys v_readPairs v_rows v_sights) s.heap) (hRet : ∀ (v : Int64) (pc : Nat) (ls : Array Slot), decode cX5_odds pc = .ok (.lreturn, 1) → post v → W p l e rm_X5_odds s m args below meth c s.heap [] 0 0 Q (F0 m pc ls [.long v])) (hf : f_X5_odds x1 x2 x3 x4 post) (ls : Array Slot) (hl : lv_has ls 15 [(0, .ref a_t), (1, .int x1), (2, .int x2), (3, .int x3), (4, .int x4)]) : W p l e rm_X5_odds s m args below meth c s.heap [] 0 0 Q (F0 m 0 ls []) := by
  have hx := hB.x
  have hb := hB.b
  have J_185 : ∀ (j185_y9 : Int64) (j185_k0 : Int64) (ls : Array Slot), f_X5_odds_185 post j185_y9 j185_k0 → lv_has ls 15 [(9, .long j185_y9)] → W p l e rm_X5_odds s m args below meth c s.heap [] 0 0 Q (F0 m 185 ls [.long j185_k0]) := by
    intro j185_y9 j185_k0 ls hf hl
    refine lv_lload hx hb dX5_odds_185 (lv_at hl 0 rfl) ?_
    obtain ⟨h_nz, hf⟩ := hf
    refine lv_ldiv hx hb dX5_odds_187 h_nz ?_
    exact hRet (j185_k0 / j185_y9) 188 ls dX5_odds_188 hf
  have J_173 : ∀ (j173_x4 : Int32) (j173_y5 : Int64) (j173_y7 : Int64) (j173_y9 : Int64) (ls : Array Slot), f_X5_odds_173 post j173_x4 j173_y5 j173_y7 j173_y9 → lv_has ls 15 [(4, .int j173_x4), (5, .long j173_y5), (7, .long j173_y7), (9, .long j173_y9)] → W p l e rm_X5_odds s m args below meth c s.heap [] 0 0 Q (F0 m 173 ls []) := by
    intro j173_x4 j173_y5 j173_y7 j173_y9 ls hf hl
    refine lv_iload hx hb dX5_odds_173 (lv_at hl 0 rfl) ?_
    refine lv_if_ne (tgt := 183) hx hb dX5_odds_175 (by decide) (fun c175 => ?_) (fun c175 => ?_)
    · have hf := hf.1 c175
      refine lv_lload hx hb dX5_odds_183 (lv_at hl 2 rfl) ?_
      exact J_185 j173_y9 j173_y7 ls hf (lv_sub hl [3] rfl)
    · have hf := hf.2 c175
      refine lv_lload hx hb dX5_odds_178 (lv_at hl 1 rfl) ?_
      refine lv_goto (tgt := 185) hx hb dX5_odds_180 (by decide) ?_
      exact J_185 j173_y9 j173_y5 ls hf (lv_sub hl [3] rfl)
  have L_148 : ∀ (g148_x4 : Int32) (g148_y5 : Int64) (g148_y7 : Int64) (n : Nat) (j148_y9 : Int64) (j148_y11 : Int64) (ls : Array Slot), mx_l2 (f_X5_odds_148 post g148_x4 g148_y5 g148_y7) n j148_y9 j148_y11 → lv_has ls 15 [(4, .int g148_x4), (5, .long g148_y5), (7, .long g148_y7), (9, .long j148_y9), (11, .long j148_y11)] → W p l e rm_X5_odds s m args below meth c s.heap [] 0 0 Q (F0 m 148 ls []) := by
    intro g148_x4 g148_y5 g148_y7 n_148
    induction n_148 with
    | zero =>
      intro j148_y9 j148_y11 ls hf hl
      exact False.elim hf
    | succ n_148 ih_148 =>
      intro j148_y9 j148_y11 ls hf hl
      replace hf : f_X5_odds_148 post g148_x4 g148_y5 g148_y7 (mx_l2 (f_X5_odds_148 post g148_x4 g148_y5 g148_y7) n_148) j148_y9 j148_y11 := hf
      refine lv_lload hx hb dX5_odds_148 (lv_at hl 4 rfl) ?_
      refine lv_lconst hx hb dX5_odds_150 kc_l_0 ?_
      refine W.lcmp hx hb dX5_odds_151 ?_
      refine lv_if_eq (tgt := 173) hx hb dX5_odds_152 (by decide) (fun c152 => ?_) (fun c152 => ?_)
      · have hf := hf.1 c152
        exact J_173 g148_x4 g148_y5 g148_y7 j148_y9 ls hf (lv_sub hl [0, 1, 2, 3] rfl)
      · have hf := hf.2 c152
        refine lv_lload hx hb dX5_odds_155 (lv_at hl 3 rfl) ?_
        refine lv_lload hx hb dX5_odds_157 (lv_at hl 4 rfl) ?_
        obtain ⟨h_nz, hf⟩ := hf
        refine lv_lrem hx hb dX5_odds_159 h_nz ?_
        refine lv_lstore (lv' := [(13, .long (j148_y9 - j148_y9 / j148_y11 * j148_y11)), (4, .int g148_x4), (5, .long g148_y5), (7, .long g148_y7), (9, .long j148_y9), (11, .long j148_y11)]) hx hb dX5_odds_160 hl (by decide) rfl (fun ls hl => ?_)
        refine lv_lload hx hb dX5_odds_162 (lv_at hl 5 rfl) ?_
        refine lv_lstore (lv' := [(9, .long j148_y11), (13, .long (j148_y9 - j148_y9 / j148_y11 * j148_y11)), (4, .int g148_x4), (5, .long g148_y5), (7, .long g148_y7), (11, .long j148_y11)]) hx hb dX5_odds_164 hl (by decide) rfl (fun ls hl => ?_)
        refine lv_lload hx hb dX5_odds_166 (lv_at hl 1 rfl) ?_
        refine lv_lstore (lv' := [(11, .long (j148_y9 - j148_y9 / j148_y11 * j148_y11)), (9, .long j148_y11), (13, .long (j148_y9 - j148_y9 / j148_y11 * j148_y11)), (4, .int g148_x4), (5, .long g148_y5), (7, .long g148_y7)]) hx hb dX5_odds_168 hl (by decide) rfl (fun ls hl => ?_)
        refine lv_goto (tgt := 148) hx hb dX5_odds_170 (by decide) ?_
        exact ih_148 j148_y11 (j148_y9 - j148_y9 / j148_y11 * j148_y11) ls hf (lv_sub hl [3, 4, 5, 1, 0] rfl)
  have J_140 : ∀ (j140_x4 : Int32) (j140_y5 : Int64) (j140_y7 : Int64) (ls : Array Slot), f_X5_odds_140 post j140_x4 j140_y5 j140_y7 → lv_has ls 15 [(4, .int j140_x4), (5, .long j140_y5), (7, .long j140_y7)] → W p l e rm_X5_odds s m args below meth c s.heap [] 0 0 Q (F0 m 140 ls []) := by
    intro j140_x4 j140_y5 j140_y7 ls hf hl
    refine lv_lload hx hb dX5_odds_140 (lv_at hl 1 rfl) ?_
    refine lv_lstore (lv' := [(9, .long j140_y5), (4, .int j140_x4), (5, .long j140_y5), (7, .long j140_y7)]) hx hb dX5_odds_142 hl (by decide) rfl (fun ls hl => ?_)
    refine lv_lload hx hb dX5_odds_144 (lv_at hl 3 rfl) ?_
    refine lv_lstore (lv' := [(11, .long j140_y7), (9, .long j140_y5), (4, .int j140_x4), (5, .long j140_y5), (7, .long j140_y7)]) hx hb dX5_odds_146 hl (by decide) rfl (fun ls hl => ?_)
    obtain ⟨n9, hf⟩ := hf
    exact L_148 j140_x4 j140_y5 j140_y7 n9 j140_y5 j140_y7 ls hf (lv_sub hl [2, 3, 4, 1, 0] rfl)
  have L_120 : ∀ (g120_x1 : Int32) (g120_x4 : Int32) (g120_y5 : Int64) (n : Nat) (j120_y7 : Int64) (j120_x9 : Int32) (ls : Array Slot), mx_l2 (f_X5_odds_120 post g120_x1 g120_x4 g120_y5) n j120_y7 j120_x9 → lv_has ls 15 [(1, .int g120_x1), (4, .int g120_x4), (5, .long g120_y5), (7, .long j120_y7), (9, .int j120_x9)] → W p l e rm_X5_odds s m args below meth c s.heap [] 0 0 Q (F0 m 120 ls []) := by
    intro g120_x1 g120_x4 g120_y5 n_120
    induction n_120 with
    | zero =>
      intro j120_y7 j120_x9 ls hf hl
      exact False.elim hf
    | succ n_120 ih_120 =>
      intro j120_y7 j120_x9 ls hf hl
      replace hf : f_X5_odds_120 post g120_x1 g120_x4 g120_y5 (mx_l2 (f_X5_odds_120 post g120_x1 g120_x4 g120_y5) n_120) j120_y7 j120_x9 := hf
      refine lv_iload hx hb dX5_odds_120 (lv_at hl 4 rfl) ?_
      refine lv_iload_n hx hb dX5_odds_122 rfl (lv_at hl 0 rfl) ?_
      refine lv_icmp_ge (tgt := 140) hx hb dX5_odds_123 (by decide) (fun c123 => ?_) (fun c123 => ?_)
      · have hf := hf.1 c123
        exact J_140 g120_x4 g120_y5 j120_y7 ls hf (lv_sub hl [1, 2, 3] rfl)
      · have hf := hf.2 c123
        refine lv_lload hx hb dX5_odds_126 (lv_at hl 3 rfl) ?_
        refine lv_ldc2 hx hb hB.o (hB.w wcl_X5_216) dX5_odds_128 ?_
        refine lv_lmul hx hb dX5_odds_131 ?_
        refine lv_lstore (lv' := [(7, .long (j120_y7 * 10)), (1, .int g120_x1), (4, .int g120_x4), (5, .long g120_y5), (9, .int j120_x9)]) hx hb dX5_odds_132 hl (by decide) rfl (fun ls hl => ?_)
        refine lv_iinc (v := j120_x9 + 1) (lv' := [(9, .int (j120_x9 + 1)), (7, .long (j120_y7 * 10)), (1, .int g120_x1), (4, .int g120_x4), (5, .long g120_y5)]) hx hb dX5_odds_134 hl (k := 4) rfl (by rw [kc_i_1]) (by decide) rfl (fun ls hl => ?_)
        refine lv_goto (tgt := 120) hx hb dX5_odds_137 (by decide) ?_
        exact ih_120 (j120_y7 * 10) (j120_x9 + 1) ls hf (lv_sub hl [2, 3, 4, 1, 0] rfl)
  have J_114 : ∀ (j114_x1 : Int32) (j114_x4 : Int32) (j114_y5 : Int64) (ls : Array Slot), f_X5_odds_114 post j114_x1 j114_x4 j114_y5 → lv_has ls 15 [(1, .int j114_x1), (4, .int j114_x4), (5, .long j114_y5)] → W p l e rm_X5_odds s m args below meth c s.heap [] 0 0 Q (F0 m 114 ls []) := by
    intro j114_x1 j114_x4 j114_y5 ls hf hl
    refine lv_lconst hx hb dX5_odds_114 kc_l_1 ?_
    refine lv_lstore (lv' := [(7, .long 1), (1, .int j114_x1), (4, .int j114_x4), (5, .long j114_y5)]) hx hb dX5_odds_115 hl (by decide) rfl (fun ls hl => ?_)
    refine lv_iconst hx hb dX5_odds_117 kc_i_0 ?_
    refine lv_istore (lv' := [(9, .int 0), (7, .long 1), (1, .int j114_x1), (4, .int j114_x4), (5, .long j114_y5)]) hx hb dX5_odds_118 hl (by decide) rfl (fun ls hl => ?_)
    obtain ⟨n9, hf⟩ := hf
    exact L_120 j114_x1 j114_x4 j114_y5 n9 1 0 ls hf (lv_sub hl [2, 3, 4, 1, 0] rfl)
  have L_50 : ∀ (g50_x1 : Int32) (g50_x3 : Int32) (g50_x4 : Int32) (n : Nat) (j50_y5 : Int64) (j50_x7 : Int32) (ls : Array Slot), mx_l2 (f_X5_odds_50 post g50_x1 g50_x3 g50_x4) n j50_y5 j50_x7 → lv_has ls 15 [(1, .int g50_x1), (3, .int g50_x3), (4, .int g50_x4), (5, .long j50_y5), (7, .int j50_x7)] → W p l e rm_X5_odds s m args below meth c s.heap [] 0 0 Q (F0 m 50 ls []) := by
    intro g50_x1 g50_x3 g50_x4 n_50
    induction n_50 with
    | zero =>
      intro j50_y5 j50_x7 ls hf hl
      exact False.elim hf
    | succ n_50 ih_50 =>
      have J_101 : ∀ (j101_y5 : Int64) (j101_x7 : Int32) (j101_y8 : Int64) (ls : Array Slot), f_X5_odds_101 (mx_l2 (f_X5_odds_50 post g50_x1 g50_x3 g50_x4) n_50) post g50_x1 g50_x3 g50_x4 j101_y5 j101_x7 j101_y8 → lv_has ls 15 [(1, .int g50_x1), (3, .int g50_x3), (4, .int g50_x4), (5, .long j101_y5), (7, .int j101_x7), (8, .long j101_y8)] → W p l e rm_X5_odds s m args below meth c s.heap [] 0 0 Q (F0 m 101 ls []) := by
        intro j101_y5 j101_x7 j101_y8 ls hf hl
        refine lv_lload hx hb dX5_odds_101 (lv_at hl 3 rfl) ?_
        refine lv_lload hx hb dX5_odds_103 (lv_at hl 5 rfl) ?_
        refine lv_ladd hx hb dX5_odds_105 ?_
        refine lv_lstore (lv' := [(5, .long (j101_y5 + j101_y8)), (1, .int g50_x1), (3, .int g50_x3), (4, .int g50_x4), (7, .int j101_x7), (8, .long j101_y8)]) hx hb dX5_odds_106 hl (by decide) rfl (fun ls hl => ?_)
        refine lv_iinc (v := j101_x7 + 1) (lv' := [(7, .int (j101_x7 + 1)), (5, .long (j101_y5 + j101_y8)), (1, .int g50_x1), (3, .int g50_x3), (4, .int g50_x4), (8, .long j101_y8)]) hx hb dX5_odds_108 hl (k := 4) rfl (by rw [kc_i_1]) (by decide) rfl (fun ls hl => ?_)
        refine lv_goto (tgt := 50) hx hb dX5_odds_111 (by decide) ?_
        exact ih_50 (j101_y5 + j101_y8) (j101_x7 + 1) ls hf (lv_sub hl [2, 3, 4, 1, 0] rfl)
      have L_67 : ∀ (g67_y5 : Int64) (g67_x7 : Int32) (n : Nat) (j67_y8 : Int64) (j67_x10 : Int32) (ls : Array Slot), mx_l2 (f_X5_odds_67 (mx_l2 (f_X5_odds_50 post g50_x1 g50_x3 g50_x4) n_50) post g50_x1 g50_x3 g50_x4 g67_y5 g67_x7) n j67_y8 j67_x10 → lv_has ls 15 [(1, .int g50_x1), (3, .int g50_x3), (4, .int g50_x4), (5, .long g67_y5), (7, .int g67_x7), (8, .long j67_y8), (10, .int j67_x10)] → W p l e rm_X5_odds s m args below meth c s.heap [] 0 0 Q (F0 m 67 ls []) := by
        intro g67_y5 g67_x7 n_67
        induction n_67 with
        | zero =>
          intro j67_y8 j67_x10 ls hf hl
          exact False.elim hf
        | succ n_67 ih_67 =>
          have J_92 : ∀ (j92_x10 : Int32) (j92_k0 : Int64) (j92_k1 : Int64) (ls : Array Slot), f_X5_odds_92 (mx_l2 (f_X5_odds_50 post g50_x1 g50_x3 g50_x4) n_50) (mx_l2 (f_X5_odds_67 (mx_l2 (f_X5_odds_50 post g50_x1 g50_x3 g50_x4) n_50) post g50_x1 g50_x3 g50_x4 g67_y5 g67_x7) n_67) post g50_x1 g50_x3 g50_x4 g67_y5 g67_x7 j92_x10 j92_k0 j92_k1 → lv_has ls 15 [(1, .int g50_x1), (3, .int g50_x3), (4, .int g50_x4), (5, .long g67_y5), (7, .int g67_x7), (10, .int j92_x10)] → W p l e rm_X5_odds s m args below meth c s.heap [] 0 0 Q (F0 m 92 ls [.long j92_k1, .long j92_k0]) := by
            intro j92_x10 j92_k0 j92_k1 ls hf hl
            refine lv_lmul hx hb dX5_odds_92 ?_
            refine lv_lstore (lv' := [(8, .long (j92_k0 * j92_k1)), (1, .int g50_x1), (3, .int g50_x3), (4, .int g50_x4), (5, .long g67_y5), (7, .int g67_x7), (10, .int j92_x10)]) hx hb dX5_odds_93 hl (by decide) rfl (fun ls hl => ?_)
            refine lv_iinc (v := j92_x10 + 1) (lv' := [(10, .int (j92_x10 + 1)), (8, .long (j92_k0 * j92_k1)), (1, .int g50_x1), (3, .int g50_x3), (4, .int g50_x4), (5, .long g67_y5), (7, .int g67_x7)]) hx hb dX5_odds_95 hl (k := 6) rfl (by rw [kc_i_1]) (by decide) rfl (fun ls hl => ?_)
            refine lv_goto (tgt := 67) hx hb dX5_odds_98 (by decide) ?_
            exact ih_67 (j92_k0 * j92_k1) (j92_x10 + 1) ls hf (lv_sub hl [2, 3, 4, 5, 6, 1, 0] rfl)
          intro j67_y8 j67_x10 ls hf hl
          replace hf : f_X5_odds_67 (mx_l2 (f_X5_odds_50 post g50_x1 g50_x3 g50_x4) n_50) post g50_x1 g50_x3 g50_x4 g67_y5 g67_x7 (mx_l2 (f_X5_odds_67 (mx_l2 (f_X5_odds_50 post g50_x1 g50_x3 g50_x4) n_50) post g50_x1 g50_x3 g50_x4 g67_y5 g67_x7) n_67) j67_y8 j67_x10 := hf
          refine lv_iload hx hb dX5_odds_67 (lv_at hl 6 rfl) ?_
          refine lv_iload_n hx hb dX5_odds_69 rfl (lv_at hl 0 rfl) ?_
          refine lv_icmp_ge (tgt := 101) hx hb dX5_odds_70 (by decide) (fun c70 => ?_) (fun c70 => ?_)
          · have hf := hf.1 c70
            exact J_101 g67_y5 g67_x7 j67_y8 ls hf (lv_sub hl [0, 1, 2, 3, 4, 5] rfl)
          · have hf := hf.2 c70
            refine lv_lload hx hb dX5_odds_73 (lv_at hl 5 rfl) ?_
            refine lv_iload hx hb dX5_odds_75 (lv_at hl 6 rfl) ?_
            refine lv_iload hx hb dX5_odds_77 (lv_at hl 4 rfl) ?_
            refine lv_icmp_ge (tgt := 90) hx hb dX5_odds_79 (by decide) (fun c79 => ?_) (fun c79 => ?_)
            · have hf := hf.1 c79
              refine lv_iload_n hx hb dX5_odds_90 rfl (lv_at hl 1 rfl) ?_
              refine lv_i2l hx hb dX5_odds_91 rfl ?_
              exact J_92 j67_x10 j67_y8 g50_x3.toInt64 ls hf (lv_sub hl [0, 1, 2, 3, 4, 6] rfl)
            · have hf := hf.2 c79
              refine lv_bipush hx hb dX5_odds_82 kc_b_10 ?_
              refine lv_iload_n hx hb dX5_odds_84 rfl (lv_at hl 1 rfl) ?_
              refine lv_isub hx hb dX5_odds_85 ?_
              refine lv_i2l hx hb dX5_odds_86 rfl ?_
              refine lv_goto (tgt := 92) hx hb dX5_odds_87 (by decide) ?_
              exact J_92 j67_x10 j67_y8 ((10 - g50_x3).toInt64) ls hf (lv_sub hl [0, 1, 2, 3, 4, 6] rfl)
      intro j50_y5 j50_x7 ls hf hl
      replace hf : f_X5_odds_50 post g50_x1 g50_x3 g50_x4 (mx_l2 (f_X5_odds_50 post g50_x1 g50_x3 g50_x4) n_50) j50_y5 j50_x7 := hf
      refine lv_iload hx hb dX5_odds_50 (lv_at hl 4 rfl) ?_
      refine lv_iload_n hx hb dX5_odds_52 rfl (lv_at hl 0 rfl) ?_
      refine lv_icmp_gt (tgt := 114) hx hb dX5_odds_53 (by decide) (fun c53 => ?_) (fun c53 => ?_)
      · have hf := hf.1 c53
        exact J_114 g50_x1 g50_x4 j50_y5 ls hf (lv_sub hl [0, 2, 3] rfl)
      · have hf := hf.2 c53
        refine lv_iload_n hx hb dX5_odds_56 rfl (lv_at hl 0 rfl) ?_
        refine lv_iload hx hb dX5_odds_57 (lv_at hl 4 rfl) ?_
        refine mx_gl (mx_runS (As := [.int g50_x1, .int j50_x7]) (rest := []) hB (c_X5_chooseOf l E g50_x1 j50_x7 _ hf) sB_X5_chooseOf wst_X5_chooseOf wml_X5_212 rfl (mx_pp hB hP [] rfl) hl.1 rfl (Nat.le_of_ble_eq_true rfl) dX5_odds_59 ⟨Nat.zero_le _, Nat.zero_le _⟩) (fun r1 hf => ?_)
        refine lv_lstore (lv' := [(8, .long r1), (1, .int g50_x1), (3, .int g50_x3), (4, .int g50_x4), (5, .long j50_y5), (7, .int j50_x7)]) hx hb dX5_odds_62 hl (by decide) rfl (fun ls hl => ?_)
        refine lv_iconst hx hb dX5_odds_64 kc_i_0 ?_
        refine lv_istore (lv' := [(10, .int 0), (8, .long r1), (1, .int g50_x1), (3, .int g50_x3), (4, .int g50_x4), (5, .long j50_y5), (7, .int j50_x7)]) hx hb dX5_odds_65 hl (by decide) rfl (fun ls hl => ?_)
        obtain ⟨n9, hf⟩ := hf
        exact L_67 j50_y5 j50_x7 n9 r1 0 ls hf (lv_sub hl [2, 3, 4, 5, 6, 1, 0] rfl)
  have J_40 : ∀  (ls : Array Slot), f_X5_odds_40 post → lv_has ls 15 [] → W p l e rm_X5_odds s m args below meth c s.heap [] 0 0 Q (F0 m 40 ls []) := by
    intro  ls hf hl
    refine lv_ldc2 hx hb hB.o (hB.w wcl_X5_95) dX5_odds_40 ?_
    exact hRet (-3) 43 ls dX5_odds_43 hf
  refine lv_iload_n hx hb dX5_odds_0 rfl (lv_at hl 1 rfl) ?_
  refine lv_iconst hx hb dX5_odds_1 kc_i_0 ?_
  refine lv_bipush hx hb dX5_odds_2 kc_b_18 ?_
  refine mx_gi (mx_runS (As := [.int x1, .int 0, .int 18]) (rest := []) hB (c_X5_in1 l E x1 0 18 _ hf) sB_X5_in1 wst_X5_in1 wml_X5_60 rfl (mx_pp hB hP [] rfl) hl.1 rfl (Nat.le_of_ble_eq_true rfl) dX5_odds_4 ⟨Nat.zero_le _, Nat.zero_le _⟩) (fun r1 hf => ?_)
  refine lv_if_eq (tgt := 40) hx hb dX5_odds_7 (by decide) (fun c7 => ?_) (fun c7 => ?_)
  · have hf := hf.1 c7
    exact J_40  ls hf (lv_sub hl [] rfl)
  · have hf := hf.2 c7
    refine lv_iload_n hx hb dX5_odds_10 rfl (lv_at hl 2 rfl) ?_
    refine lv_iconst hx hb dX5_odds_11 kc_i_0 ?_
    refine lv_bipush hx hb dX5_odds_12 kc_b_18 ?_
    refine mx_gi (mx_runS (As := [.int x2, .int 0, .int 18]) (rest := []) hB (c_X5_in1 l E x2 0 18 _ hf) sB_X5_in1 wst_X5_in1 wml_X5_60 rfl (mx_pp hB hP [] rfl) hl.1 rfl (Nat.le_of_ble_eq_true rfl) dX5_odds_14 ⟨Nat.zero_le _, Nat.zero_le _⟩) (fun r2 hf => ?_)
    refine lv_if_eq (tgt := 40) hx hb dX5_odds_17 (by decide) (fun c17 => ?_) (fun c17 => ?_)
    · have hf := hf.1 c17
      exact J_40  ls hf (lv_sub hl [] rfl)
    · have hf := hf.2 c17
      refine lv_iload_n hx hb dX5_odds_20 rfl (lv_at hl 3 rfl) ?_
      refine lv_iconst hx hb dX5_odds_21 kc_i_0 ?_
      refine lv_bipush hx hb dX5_odds_22 kc_b_10 ?_
      refine mx_gi (mx_runS (As := [.int x3, .int 0, .int 10]) (rest := []) hB (c_X5_in1 l E x3 0 10 _ hf) sB_X5_in1 wst_X5_in1 wml_X5_60 rfl (mx_pp hB hP [] rfl) hl.1 rfl (Nat.le_of_ble_eq_true rfl) dX5_odds_24 ⟨Nat.zero_le _, Nat.zero_le _⟩) (fun r3 hf => ?_)
      refine lv_if_eq (tgt := 40) hx hb dX5_odds_27 (by decide) (fun c27 => ?_) (fun c27 => ?_)
      · have hf := hf.1 c27
        exact J_40  ls hf (lv_sub hl [] rfl)
      · have hf := hf.2 c27
        refine lv_iload hx hb dX5_odds_30 (lv_at hl 4 rfl) ?_
        refine lv_iconst hx hb dX5_odds_32 kc_i_0 ?_
        refine lv_iconst hx hb dX5_odds_33 kc_i_1 ?_
        refine mx_gi (mx_runS (As := [.int x4, .int 0, .int 1]) (rest := []) hB (c_X5_in1 l E x4 0 1 _ hf) sB_X5_in1 wst_X5_in1 wml_X5_60 rfl (mx_pp hB hP [] rfl) hl.1 rfl (Nat.le_of_ble_eq_true rfl) dX5_odds_34 ⟨Nat.zero_le _, Nat.zero_le _⟩) (fun r4 hf => ?_)
        refine lv_if_ne (tgt := 44) hx hb dX5_odds_37 (by decide) (fun c37 => ?_) (fun c37 => ?_)
        · have hf := hf.1 c37
          refine lv_lconst hx hb dX5_odds_44 kc_l_0 ?_
          refine lv_lstore (lv' := [(5, .long 0), (0, .ref a_t), (1, .int x1), (2, .int x2), (3, .int x3), (4, .int x4)]) hx hb dX5_odds_45 hl (by decide) rfl (fun ls hl => ?_)
          refine lv_iload_n hx hb dX5_odds_47 rfl (lv_at hl 3 rfl) ?_
          refine lv_istore (lv' := [(7, .int x2), (5, .long 0), (0, .ref a_t), (1, .int x1), (2, .int x2), (3, .int x3), (4, .int x4)]) hx hb dX5_odds_48 hl (by decide) rfl (fun ls hl => ?_)
          obtain ⟨n9, hf⟩ := hf
          exact L_50 x1 x3 x4 n9 0 x2 ls hf (lv_sub hl [3, 5, 6, 1, 0] rfl)
        · have hf := hf.2 c37
          exact J_40  ls hf (lv_sub hl [] rfl)
theorem c_X5_odds (l : Launch) (E : mx_E) (a_t : Nat) (a_storey : Nat) (a_wind : Nat) (a_pair : Nat) (a_text : Nat) (a_read : Nat) (a_now : Nat) (a_image : Nat) (a_isKept : Nat) (a_row : Nat) (a_sight : Nat) (a_ways : Nat) (a_ends : Nat) (a_tried : Nat) (v_storeys : Int32) (v_jacks : Int32) (v_soft : Int32) (v_pairs : Int32) (v_bytes : Int32) (v_position : Int32) (v_tokenAt : Int32) (v_token : Int64) (v_digits : Int32) (v_number : Int32) (v_faultAt : Int32) (v_readMany : Int32) (v_readStoreys : Int32) (v_readPairs : Int32) (v_rows : Int32) (v_sights : Int32) (x1 : Int32) (x2 : Int32) (x3 : Int32) (x4 : Int32) (post : Int64 → Prop) (hf : f_X5_odds x1 x2 x3 x4 post) : Met l yX5_odds (Cond.code yX5_odds cX5_odds 15 (some .long) :: mx_WS) rm_X5_odds (va_Pc [.ref a_t, .int x1, .int x2, .int x3, .int x4] (mx_Pp E (w_X5_odds E a_t a_storey a_wind a_pair a_text a_read a_now a_image a_isKept a_row a_sight a_ways a_ends a_tried v_storeys v_jacks v_soft v_pairs v_bytes v_position v_tokenAt v_token v_digits v_number v_faultAt v_readMany v_readStoreys v_readPairs v_rows v_sights))) (vp_Sl post) 0 0 (fun _ => False) :=
  mx_metPl (by decide) rfl rfl (fun hB hP hRet ls hl => b_X5_odds E a_t a_storey a_wind a_pair a_text a_read a_now a_image a_isKept a_row a_sight a_ways a_ends a_tried v_storeys v_jacks v_soft v_pairs v_bytes v_position v_tokenAt v_token v_digits v_number v_faultAt v_readMany v_readStoreys v_readPairs v_rows v_sights x1 x2 x3 x4 post hB hP hRet hf ls hl)
def rm_X5_firstWrong : Room := { frames := 3, cells := 0, slots := 0, locals := 70 }
set_option maxHeartbeats 4000000 in
set_option maxRecDepth 100000 in
theorem b_X5_firstWrong {p : Program} {l : Launch} {e : Env} {s : State} {m : MethodId} {args : Array Value} {below : List Frame} {meth : Method} {c : Code} {Q : State → Prop} (E : mx_E) (a_t : Nat) (a_storey : Nat) (a_wind : Nat) (a_pair : Nat) (a_text : Nat) (a_read : Nat) (a_now : Nat) (a_image : Nat) (a_isKept : Nat) (a_row : Nat) (a_sight : Nat) (a_ways : Nat) (a_ends : Nat) (a_tried : Nat) (v_storeys : Int32) (v_jacks : Int32) (v_soft : Int32) (v_pairs : Int32) (v_bytes : Int32) (v_position : Int32) (v_tokenAt : Int32) (v_token : Int64) (v_digits : Int32) (v_number : Int32) (v_faultAt : Int32) (v_readMany : Int32) (v_readStoreys : Int32) (v_readPairs : Int32) (v_rows : Int32) (v_sights : Int32) (v_tried : (Nat → Int32)) (v_storey : (Nat → Int32)) (v_pair : (Nat → Int32)) (x1 : Int32) (post : Int32 → Prop) (hB : mx_B p m c cX5_firstWrong 4 s args RX5 E) (hP : va_P E.1 vwCl (w_X5_firstWrong E a_t a_storey a_wind a_pair a_text a_read a_now a_image a_isKept a_row a_sight a_ways a_ends a_tried v_storeys v_jacks v_soft v_pairs v_bytes v_position v_tokenAt v_token v_digits v_number v_faultAt v_readMany v_readStoreys v_readPairs v_rows v_sights v_tried v_storey v_pair) s.heap) (hRet : ∀ (v : Int32) (pc : Nat) (ls : Array Slot), decode cX5_firstWrong pc = .ok (.ireturn, 1) → post v → W p l e rm_X5_firstWrong s m args below meth c s.heap [] 0 0 Q (F0 m pc ls [.int v])) (hf : f_X5_firstWrong v_tried v_jacks v_storeys v_storey v_pairs v_pair x1 post) (ls : Array Slot) (hl : lv_has ls 4 [(0, .ref a_t), (1, .int x1)]) : W p l e rm_X5_firstWrong s m args below meth c s.heap [] 0 0 Q (F0 m 0 ls []) := by
  have hx := hB.x
  have hb := hB.b
  have L_4 : ∀ (g4_x1 : Int32) (n : Nat) (j4_x2 : Int32) (j4_x3 : Int32) (ls : Array Slot), mx_l2 (f_X5_firstWrong_4 v_tried v_jacks v_storeys v_storey v_pairs v_pair post g4_x1) n j4_x2 j4_x3 → lv_has ls 4 [(0, .ref a_t), (1, .int g4_x1), (2, .int j4_x2), (3, .int j4_x3)] → W p l e rm_X5_firstWrong s m args below meth c s.heap [] 0 0 Q (F0 m 4 ls []) := by
    intro g4_x1 n_4
    induction n_4 with
    | zero =>
      intro j4_x2 j4_x3 ls hf hl
      exact False.elim hf
    | succ n_4 ih_4 =>
      intro j4_x2 j4_x3 ls hf hl
      replace hf : f_X5_firstWrong_4 v_tried v_jacks v_storeys v_storey v_pairs v_pair post g4_x1 (mx_l2 (f_X5_firstWrong_4 v_tried v_jacks v_storeys v_storey v_pairs v_pair post g4_x1) n_4) j4_x2 j4_x3 := hf
      refine lv_iload_n hx hb dX5_firstWrong_4 rfl (lv_at hl 3 rfl) ?_
      refine lv_iload_n hx hb dX5_firstWrong_5 rfl (lv_at hl 1 rfl) ?_
      refine lv_icmp_ge (tgt := 46) hx hb dX5_firstWrong_6 (by decide) (fun c6 => ?_) (fun c6 => ?_)
      · have hf := hf.1 c6
        refine lv_iconst hx hb dX5_firstWrong_46 kc_i_m1 ?_
        exact hRet (-1) 47 ls dX5_firstWrong_47 hf
      · have hf := hf.2 c6
        refine lv_aload_n hx hb dX5_firstWrong_9 rfl (lv_at hl 0 rfl) ?_
        refine lv_aload_n hx hb dX5_firstWrong_10 rfl (lv_at hl 0 rfl) ?_
        refine gf_X5_54 hB hP 0 rfl rfl dX5_firstWrong_11 ?_
        refine lv_iload_n hx hb dX5_firstWrong_14 rfl (lv_at hl 3 rfl) ?_
        obtain ⟨h_in, hf⟩ := hf
        refine va_iald hx hb hB.K hP 1 0 rfl rfl h_in dX5_firstWrong_15 ?_
        refine lv_iload_n hx hb dX5_firstWrong_16 rfl (lv_at hl 2 rfl) ?_
        refine lv_aload_n hx hb dX5_firstWrong_17 rfl (lv_at hl 0 rfl) ?_
        refine gf_X5_13 hB hP 0 rfl rfl dX5_firstWrong_18 ?_
        refine mx_gi (mx_runV (As := [.int (v_tried j4_x3.toNatClampNeg), .int j4_x2, .int v_jacks]) (rest := []) hB (c_X5_whyBy l E a_t a_storey a_wind a_pair a_text a_read a_now a_image a_isKept a_row a_sight a_ways a_ends a_tried v_storeys v_jacks v_soft v_pairs v_bytes v_position v_tokenAt v_token v_digits v_number v_faultAt v_readMany v_readStoreys v_readPairs v_rows v_sights v_storey v_pair (v_tried j4_x3.toNatClampNeg) j4_x2 v_jacks _ hf) sB_X5_whyBy sV_X5_whyBy wml_X5_196 rfl (mx_ppV hB hP [0, 2, 3] rfl 5 rfl rfl rfl) hl.1 rfl (Nat.le_of_ble_eq_true rfl) dX5_firstWrong_21 ⟨Nat.zero_le _, Nat.zero_le _⟩) (fun r1 hf => ?_)
        refine lv_if_eq (tgt := 29) hx hb dX5_firstWrong_24 (by decide) (fun c24 => ?_) (fun c24 => ?_)
        · have hf := hf.1 c24
          refine lv_iload_n hx hb dX5_firstWrong_29 rfl (lv_at hl 2 rfl) ?_
          refine lv_iconst hx hb dX5_firstWrong_30 kc_i_1 ?_
          refine lv_aload_n hx hb dX5_firstWrong_31 rfl (lv_at hl 0 rfl) ?_
          refine gf_X5_54 hB hP 0 rfl rfl dX5_firstWrong_32 ?_
          refine lv_iload_n hx hb dX5_firstWrong_35 rfl (lv_at hl 3 rfl) ?_
          obtain ⟨h_in, hf⟩ := hf
          refine va_iald hx hb hB.K hP 1 0 rfl rfl h_in dX5_firstWrong_36 ?_
          refine lv_ishl hx hb dX5_firstWrong_37 ?_
          refine lv_ior hx hb dX5_firstWrong_38 ?_
          refine lv_istore_n (lv' := [(2, .int (j4_x2 ||| (1 <<< ((v_tried j4_x3.toNatClampNeg) &&& 31)))), (0, .ref a_t), (1, .int g4_x1), (3, .int j4_x3)]) hx hb dX5_firstWrong_39 rfl hl (by decide) rfl (fun ls hl => ?_)
          refine lv_iinc (v := j4_x3 + 1) (lv' := [(3, .int (j4_x3 + 1)), (2, .int (j4_x2 ||| (1 <<< ((v_tried j4_x3.toNatClampNeg) &&& 31)))), (0, .ref a_t), (1, .int g4_x1)]) hx hb dX5_firstWrong_40 hl (k := 3) rfl (by rw [kc_i_1]) (by decide) rfl (fun ls hl => ?_)
          refine lv_goto (tgt := 4) hx hb dX5_firstWrong_43 (by decide) ?_
          exact ih_4 (j4_x2 ||| (1 <<< ((v_tried j4_x3.toNatClampNeg) &&& 31))) (j4_x3 + 1) ls hf (lv_sub hl [2, 3, 1, 0] rfl)
        · have hf := hf.2 c24
          refine lv_iload_n hx hb dX5_firstWrong_27 rfl (lv_at hl 3 rfl) ?_
          exact hRet j4_x3 28 ls dX5_firstWrong_28 hf
  refine lv_iconst hx hb dX5_firstWrong_0 kc_i_0 ?_
  refine lv_istore_n (lv' := [(2, .int 0), (0, .ref a_t), (1, .int x1)]) hx hb dX5_firstWrong_1 rfl hl (by decide) rfl (fun ls hl => ?_)
  refine lv_iconst hx hb dX5_firstWrong_2 kc_i_0 ?_
  refine lv_istore_n (lv' := [(3, .int 0), (2, .int 0), (0, .ref a_t), (1, .int x1)]) hx hb dX5_firstWrong_3 rfl hl (by decide) rfl (fun ls hl => ?_)
  obtain ⟨n9, hf⟩ := hf
  exact L_4 x1 n9 0 0 ls hf (lv_sub hl [2, 3, 1, 0] rfl)
theorem c_X5_firstWrong (l : Launch) (E : mx_E) (a_t : Nat) (a_storey : Nat) (a_wind : Nat) (a_pair : Nat) (a_text : Nat) (a_read : Nat) (a_now : Nat) (a_image : Nat) (a_isKept : Nat) (a_row : Nat) (a_sight : Nat) (a_ways : Nat) (a_ends : Nat) (a_tried : Nat) (v_storeys : Int32) (v_jacks : Int32) (v_soft : Int32) (v_pairs : Int32) (v_bytes : Int32) (v_position : Int32) (v_tokenAt : Int32) (v_token : Int64) (v_digits : Int32) (v_number : Int32) (v_faultAt : Int32) (v_readMany : Int32) (v_readStoreys : Int32) (v_readPairs : Int32) (v_rows : Int32) (v_sights : Int32) (v_tried : (Nat → Int32)) (v_storey : (Nat → Int32)) (v_pair : (Nat → Int32)) (x1 : Int32) (post : Int32 → Prop) (hf : f_X5_firstWrong v_tried v_jacks v_storeys v_storey v_pairs v_pair x1 post) : Met l yX5_firstWrong (Cond.code yX5_firstWrong cX5_firstWrong 4 (some .int) :: mx_WS) rm_X5_firstWrong (va_Pc [.ref a_t, .int x1] (mx_Pp E (w_X5_firstWrong E a_t a_storey a_wind a_pair a_text a_read a_now a_image a_isKept a_row a_sight a_ways a_ends a_tried v_storeys v_jacks v_soft v_pairs v_bytes v_position v_tokenAt v_token v_digits v_number v_faultAt v_readMany v_readStoreys v_readPairs v_rows v_sights v_tried v_storey v_pair))) (vp_Si post) 0 0 (fun _ => False) :=
  mx_metPi (by decide) rfl rfl (fun hB hP hRet ls hl => b_X5_firstWrong E a_t a_storey a_wind a_pair a_text a_read a_now a_image a_isKept a_row a_sight a_ways a_ends a_tried v_storeys v_jacks v_soft v_pairs v_bytes v_position v_tokenAt v_token v_digits v_number v_faultAt v_readMany v_readStoreys v_readPairs v_rows v_sights v_tried v_storey v_pair x1 post hB hP hRet hf ls hl)
def rm_X5_without : Room := { frames := 4, cells := 0, slots := 0, locals := 93 }
set_option maxHeartbeats 4000000 in
set_option maxRecDepth 100000 in
theorem b_X5_without {p : Program} {l : Launch} {e : Env} {s : State} {m : MethodId} {args : Array Value} {below : List Frame} {meth : Method} {c : Code} {Q : State → Prop} {A : Nat → Prop} (E : mx_E) (a_t : Nat) (a_storey : Nat) (a_wind : Nat) (a_pair : Nat) (a_text : Nat) (a_read : Nat) (a_now : Nat) (a_image : Nat) (a_isKept : Nat) (a_row : Nat) (a_sight : Nat) (a_ways : Nat) (a_ends : Nat) (a_tried : Nat) (v_storeys : Int32) (v_jacks : Int32) (v_soft : Int32) (v_pairs : Int32) (v_bytes : Int32) (v_position : Int32) (v_tokenAt : Int32) (v_token : Int64) (v_digits : Int32) (v_number : Int32) (v_faultAt : Int32) (v_readMany : Int32) (v_readStoreys : Int32) (v_readPairs : Int32) (v_rows : Int32) (v_sights : Int32) (v_now : (Nat → Int32)) (v_tried : (Nat → Int32)) (v_storey : (Nat → Int32)) (v_pair : (Nat → Int32)) (x1 : Int32) (post : Int32 → (Nat → Int32) → Prop) (hB : mx_B p m c cX5_without 4 s args RX5 E) (hP : va_P E.1 vwCl (w_X5_without E a_t a_storey a_wind a_pair a_text a_read a_now a_image a_isKept a_row a_sight a_ways a_ends a_tried v_storeys v_jacks v_soft v_pairs v_bytes v_position v_tokenAt v_token v_digits v_number v_faultAt v_readMany v_readStoreys v_readPairs v_rows v_sights v_now v_tried v_storey v_pair) s.heap) (hD : va_D A (w_X5_without E a_t a_storey a_wind a_pair a_text a_read a_now a_image a_isKept a_row a_sight a_ways a_ends a_tried v_storeys v_jacks v_soft v_pairs v_bytes v_position v_tokenAt v_token v_digits v_number v_faultAt v_readMany v_readStoreys v_readPairs v_rows v_sights v_now v_tried v_storey v_pair)) (hA : ∀ q : Nat, s.heap.size ≤ q → A q) (hRet : ∀ (v : Int32) (u : (Nat → Int32)) (pc : Nat) (ls : Array Slot) (H : Heap) (locs : List Loc), decode cX5_without pc = .ok (.ireturn, 1) → post v u → va_P E.1 vwCl (w_X5_without E a_t a_storey a_wind a_pair a_text a_read a_now a_image a_isKept a_row a_sight a_ways a_ends a_tried v_storeys v_jacks v_soft v_pairs v_bytes v_position v_tokenAt v_token v_digits v_number v_faultAt v_readMany v_readStoreys v_readPairs v_rows v_sights v_now u v_storey v_pair) H → va_S A s.heap H locs → W p l e rm_X5_without s m args below meth c H locs 0 0 Q (F0 m pc ls [.int v])) (hf : f_X5_without v_storeys v_now v_jacks v_storey v_pairs v_pair v_tried x1 post) (ls : Array Slot) (hl : lv_has ls 4 [(0, .ref a_t), (1, .int x1)]) : W p l e rm_X5_without s m args below meth c s.heap [] 0 0 Q (F0 m 0 ls []) := by
  have hx := hB.x
  have hb := hB.b
  have hS : va_S A s.heap s.heap [] := va_S.rf
  have J_74 : ∀ (j74_x2 : Int32) (j74_v_tried : (Nat → Int32)) (ls : Array Slot) (H : Heap) (locs : List Loc), f_X5_without_74 v_storeys v_now v_jacks v_storey v_pairs v_pair post j74_x2 j74_v_tried → lv_has ls 4 [(0, .ref a_t), (2, .int j74_x2)] → va_P E.1 vwCl (w_X5_without E a_t a_storey a_wind a_pair a_text a_read a_now a_image a_isKept a_row a_sight a_ways a_ends a_tried v_storeys v_jacks v_soft v_pairs v_bytes v_position v_tokenAt v_token v_digits v_number v_faultAt v_readMany v_readStoreys v_readPairs v_rows v_sights v_now j74_v_tried v_storey v_pair) H → va_D A (w_X5_without E a_t a_storey a_wind a_pair a_text a_read a_now a_image a_isKept a_row a_sight a_ways a_ends a_tried v_storeys v_jacks v_soft v_pairs v_bytes v_position v_tokenAt v_token v_digits v_number v_faultAt v_readMany v_readStoreys v_readPairs v_rows v_sights v_now j74_v_tried v_storey v_pair) → va_S A s.heap H locs → W p l e rm_X5_without s m args below meth c H locs 0 0 Q (F0 m 74 ls []) := by
    intro j74_x2 j74_v_tried ls H locs hf hl hP hD hS
    refine lv_aload_n hx hb dX5_without_74 rfl (lv_at hl 0 rfl) ?_
    refine lv_iload_n hx hb dX5_without_75 rfl (lv_at hl 1 rfl) ?_
    refine mx_gi (mx_runV (As := [.int j74_x2]) (rest := []) hB (c_X5_firstWrong l E a_t a_storey a_wind a_pair a_text a_read a_now a_image a_isKept a_row a_sight a_ways a_ends a_tried v_storeys v_jacks v_soft v_pairs v_bytes v_position v_tokenAt v_token v_digits v_number v_faultAt v_readMany v_readStoreys v_readPairs v_rows v_sights j74_v_tried v_storey v_pair j74_x2 _ hf) sB_X5_firstWrong sV_X5_firstWrong wml_X5_218 rfl (mx_ppV hB hP [0, 2, 3, 4] rfl 5 rfl rfl rfl) hl.1 rfl (Nat.le_of_ble_eq_true rfl) dX5_without_76 ⟨Nat.zero_le _, Nat.zero_le _⟩) (fun r1 hf => ?_)
    exact hRet r1 j74_v_tried 79 ls H locs dX5_without_79 hf hP hS
  have L_29 : ∀ (g29_x1 : Int32) (n : Nat) (j29_x2 : Int32) (j29_x3 : Int32) (j29_v_tried : (Nat → Int32)) (ls : Array Slot) (H : Heap) (locs : List Loc), mx_l3 (f_X5_without_29 v_storeys v_now v_jacks v_storey v_pairs v_pair post g29_x1) n j29_x2 j29_x3 j29_v_tried → lv_has ls 4 [(0, .ref a_t), (1, .int g29_x1), (2, .int j29_x2), (3, .int j29_x3)] → va_P E.1 vwCl (w_X5_without E a_t a_storey a_wind a_pair a_text a_read a_now a_image a_isKept a_row a_sight a_ways a_ends a_tried v_storeys v_jacks v_soft v_pairs v_bytes v_position v_tokenAt v_token v_digits v_number v_faultAt v_readMany v_readStoreys v_readPairs v_rows v_sights v_now j29_v_tried v_storey v_pair) H → va_D A (w_X5_without E a_t a_storey a_wind a_pair a_text a_read a_now a_image a_isKept a_row a_sight a_ways a_ends a_tried v_storeys v_jacks v_soft v_pairs v_bytes v_position v_tokenAt v_token v_digits v_number v_faultAt v_readMany v_readStoreys v_readPairs v_rows v_sights v_now j29_v_tried v_storey v_pair) → va_S A s.heap H locs → W p l e rm_X5_without s m args below meth c H locs 0 0 Q (F0 m 29 ls []) := by
    intro g29_x1 n_29
    induction n_29 with
    | zero =>
      intro j29_x2 j29_x3 j29_v_tried ls H locs hf hl hP hD hS
      exact False.elim hf
    | succ n_29 ih_29 =>
      intro j29_x2 j29_x3 j29_v_tried ls H locs hf hl hP hD hS
      replace hf : f_X5_without_29 v_storeys v_now v_jacks v_storey v_pairs v_pair post g29_x1 (mx_l3 (f_X5_without_29 v_storeys v_now v_jacks v_storey v_pairs v_pair post g29_x1) n_29) j29_x2 j29_x3 j29_v_tried := hf
      refine lv_iload_n hx hb dX5_without_29 rfl (lv_at hl 3 rfl) ?_
      refine lv_aload_n hx hb dX5_without_30 rfl (lv_at hl 0 rfl) ?_
      refine gf_X5_32 hB hP 0 rfl rfl dX5_without_31 ?_
      refine lv_iconst hx hb dX5_without_34 kc_i_0 ?_
      obtain ⟨h_in, hf⟩ := hf
      refine va_iald hx hb hB.K hP 1 0 rfl rfl h_in dX5_without_35 ?_
      refine lv_icmp_ge (tgt := 74) hx hb dX5_without_36 (by decide) (fun c36 => ?_) (fun c36 => ?_)
      · have hf := hf.1 c36
        exact J_74 j29_x2 j29_v_tried ls H locs hf (lv_sub hl [0, 2] rfl) hP hD hS
      · have hf := hf.2 c36
        refine lv_aload_n hx hb dX5_without_39 rfl (lv_at hl 0 rfl) ?_
        refine gf_X5_32 hB hP 0 rfl rfl dX5_without_40 ?_
        refine lv_iconst hx hb dX5_without_43 kc_i_2 ?_
        refine lv_iload_n hx hb dX5_without_44 rfl (lv_at hl 3 rfl) ?_
        refine lv_iadd hx hb dX5_without_45 ?_
        obtain ⟨h_in, hf⟩ := hf
        refine va_iald hx hb hB.K hP 1 0 rfl rfl h_in dX5_without_46 ?_
        refine lv_iload_n hx hb dX5_without_47 rfl (lv_at hl 1 rfl) ?_
        refine lv_icmp_eq (tgt := 68) hx hb dX5_without_48 (by decide) (fun c48 => ?_) (fun c48 => ?_)
        · have hf := hf.1 c48
          refine lv_iinc (v := j29_x3 + 1) (lv' := [(3, .int (j29_x3 + 1)), (0, .ref a_t), (1, .int g29_x1), (2, .int j29_x2)]) hx hb dX5_without_68 hl (k := 3) rfl (by rw [kc_i_1]) (by decide) rfl (fun ls hl => ?_)
          refine lv_goto (tgt := 29) hx hb dX5_without_71 (by decide) ?_
          exact ih_29 j29_x2 (j29_x3 + 1) j29_v_tried ls H locs hf (lv_sub hl [1, 2, 3, 0] rfl) hP hD hS
        · have hf := hf.2 c48
          refine lv_aload_n hx hb dX5_without_51 rfl (lv_at hl 0 rfl) ?_
          refine gf_X5_54 hB hP 0 rfl rfl dX5_without_52 ?_
          refine lv_iload_n hx hb dX5_without_55 rfl (lv_at hl 2 rfl) ?_
          refine lv_aload_n hx hb dX5_without_56 rfl (lv_at hl 0 rfl) ?_
          refine gf_X5_32 hB hP 0 rfl rfl dX5_without_57 ?_
          refine lv_iconst hx hb dX5_without_60 kc_i_2 ?_
          refine lv_iload_n hx hb dX5_without_61 rfl (lv_at hl 3 rfl) ?_
          refine lv_iadd hx hb dX5_without_62 ?_
          obtain ⟨h_in, hf⟩ := hf
          refine va_iald hx hb hB.K hP 1 0 rfl rfl h_in dX5_without_63 ?_
          obtain ⟨h_in, hf⟩ := hf
          refine va_iast hx hb hB.K hP hD hS 2 0 rfl rfl h_in dX5_without_64 (fun H locs hP hD hS => ?_)
          have hP : va_P E.1 vwCl (w_X5_without E a_t a_storey a_wind a_pair a_text a_read a_now a_image a_isKept a_row a_sight a_ways a_ends a_tried v_storeys v_jacks v_soft v_pairs v_bytes v_position v_tokenAt v_token v_digits v_number v_faultAt v_readMany v_readStoreys v_readPairs v_rows v_sights v_now (upd j29_v_tried j29_x2.toNatClampNeg (v_now (2 + j29_x3).toNatClampNeg)) v_storey v_pair) H := hP
          have hD : va_D A (w_X5_without E a_t a_storey a_wind a_pair a_text a_read a_now a_image a_isKept a_row a_sight a_ways a_ends a_tried v_storeys v_jacks v_soft v_pairs v_bytes v_position v_tokenAt v_token v_digits v_number v_faultAt v_readMany v_readStoreys v_readPairs v_rows v_sights v_now (upd j29_v_tried j29_x2.toNatClampNeg (v_now (2 + j29_x3).toNatClampNeg)) v_storey v_pair) := hD
          refine lv_iinc (v := j29_x2 + 1) (lv' := [(2, .int (j29_x2 + 1)), (0, .ref a_t), (1, .int g29_x1), (3, .int j29_x3)]) hx hb dX5_without_65 hl (k := 2) rfl (by rw [kc_i_1]) (by decide) rfl (fun ls hl => ?_)
          refine lv_iinc (v := j29_x3 + 1) (lv' := [(3, .int (j29_x3 + 1)), (2, .int (j29_x2 + 1)), (0, .ref a_t), (1, .int g29_x1)]) hx hb dX5_without_68 hl (k := 3) rfl (by rw [kc_i_1]) (by decide) rfl (fun ls hl => ?_)
          refine lv_goto (tgt := 29) hx hb dX5_without_71 (by decide) ?_
          exact ih_29 (j29_x2 + 1) (j29_x3 + 1) (upd j29_v_tried j29_x2.toNatClampNeg (v_now (2 + j29_x3).toNatClampNeg)) ls H locs hf (lv_sub hl [2, 3, 1, 0] rfl) hP hD hS
  obtain ⟨H, locs, eH, eL⟩ : ∃ (H : Heap) (locs : List Loc), H = s.heap ∧ locs = [] := ⟨_, _, rfl, rfl⟩
  rw [← eH] at hP
  have hS : va_S A s.heap H locs := by rw [eH, eL]; exact hS
  show W p l e rm_X5_without s m args below meth c s.heap [] 0 0 Q (F0 m 0 ls [])
  rw [← eH, ← eL]
  refine lv_aload_n hx hb dX5_without_0 rfl (lv_at hl 0 rfl) ?_
  refine lv_iload_n hx hb dX5_without_1 rfl (lv_at hl 1 rfl) ?_
  refine mx_gi (mx_runV (As := [.int x1]) (rest := []) hB (c_X5_isStorey l E a_t a_storey a_wind a_pair a_text a_read a_now a_image a_isKept a_row a_sight a_ways a_ends a_tried v_storeys v_jacks v_soft v_pairs v_bytes v_position v_tokenAt v_token v_digits v_number v_faultAt v_readMany v_readStoreys v_readPairs v_rows v_sights x1 _ hf) sB_X5_isStorey sV_X5_isStorey wml_X5_172 rfl (mx_ppV hB hP [0] rfl 5 rfl rfl rfl) hl.1 rfl (Nat.le_of_ble_eq_true rfl) dX5_without_2 ⟨Nat.zero_le _, Nat.zero_le _⟩) (fun r1 hf => ?_)
  refine lv_if_ne (tgt := 11) hx hb dX5_without_5 (by decide) (fun c5 => ?_) (fun c5 => ?_)
  · have hf := hf.1 c5
    refine lv_aload_n hx hb dX5_without_11 rfl (lv_at hl 0 rfl) ?_
    refine mx_gi (mx_runV (As := []) (rest := []) hB (c_X5_upSet l E a_t a_storey a_wind a_pair a_text a_read a_now a_image a_isKept a_row a_sight a_ways a_ends a_tried v_storeys v_jacks v_soft v_pairs v_bytes v_position v_tokenAt v_token v_digits v_number v_faultAt v_readMany v_readStoreys v_readPairs v_rows v_sights v_now _ hf) sB_X5_upSet sV_X5_upSet wml_X5_192 rfl (mx_ppV hB hP [0, 1] rfl 5 rfl rfl rfl) hl.1 rfl (Nat.le_of_ble_eq_true rfl) dX5_without_12 ⟨Nat.zero_le _, Nat.zero_le _⟩) (fun r2 hf => ?_)
    refine lv_iload_n hx hb dX5_without_15 rfl (lv_at hl 1 rfl) ?_
    refine mx_gi (mx_runS (As := [.int r2, .int x1]) (rest := []) hB (c_X5_has l E r2 x1 _ hf) sB_X5_has wst_X5_has wml_X5_179 rfl (mx_pp hB hP [] rfl) hl.1 rfl (Nat.le_of_ble_eq_true rfl) dX5_without_16 ⟨Nat.zero_le _, Nat.zero_le _⟩) (fun r3 hf => ?_)
    refine lv_if_ne (tgt := 25) hx hb dX5_without_19 (by decide) (fun c19 => ?_) (fun c19 => ?_)
    · have hf := hf.1 c19
      refine lv_iconst hx hb dX5_without_25 kc_i_0 ?_
      refine lv_istore_n (lv' := [(2, .int 0), (0, .ref a_t), (1, .int x1)]) hx hb dX5_without_26 rfl hl (by decide) rfl (fun ls hl => ?_)
      refine lv_iconst hx hb dX5_without_27 kc_i_0 ?_
      refine lv_istore_n (lv' := [(3, .int 0), (2, .int 0), (0, .ref a_t), (1, .int x1)]) hx hb dX5_without_28 rfl hl (by decide) rfl (fun ls hl => ?_)
      obtain ⟨n9, hf⟩ := hf
      exact L_29 x1 n9 0 0 v_tried ls H locs hf (lv_sub hl [2, 3, 1, 0] rfl) hP hD hS
    · have hf := hf.2 c19
      refine lv_bipush hx hb dX5_without_22 kc_b_m4 ?_
      exact hRet (-4) v_tried 24 ls H locs dX5_without_24 hf hP hS
  · have hf := hf.2 c5
    refine lv_bipush hx hb dX5_without_8 kc_b_m2 ?_
    exact hRet (-2) v_tried 10 ls H locs dX5_without_10 hf hP hS
theorem c_X5_without (l : Launch) (E : mx_E) (a_t : Nat) (a_storey : Nat) (a_wind : Nat) (a_pair : Nat) (a_text : Nat) (a_read : Nat) (a_now : Nat) (a_image : Nat) (a_isKept : Nat) (a_row : Nat) (a_sight : Nat) (a_ways : Nat) (a_ends : Nat) (a_tried : Nat) (v_storeys : Int32) (v_jacks : Int32) (v_soft : Int32) (v_pairs : Int32) (v_bytes : Int32) (v_position : Int32) (v_tokenAt : Int32) (v_token : Int64) (v_digits : Int32) (v_number : Int32) (v_faultAt : Int32) (v_readMany : Int32) (v_readStoreys : Int32) (v_readPairs : Int32) (v_rows : Int32) (v_sights : Int32) (v_now : (Nat → Int32)) (v_tried : (Nat → Int32)) (v_storey : (Nat → Int32)) (v_pair : (Nat → Int32)) (sz : Nat) (x1 : Int32) (post : Int32 → (Nat → Int32) → Prop) (hf : f_X5_without v_storeys v_now v_jacks v_storey v_pairs v_pair v_tried x1 post) : Met l yX5_without (Cond.code yX5_without cX5_without 4 (some .int) :: mx_WS) rm_X5_without (va_Pc [.ref a_t, .int x1] (mx_Pw E (w_X5_without E a_t a_storey a_wind a_pair a_text a_read a_now a_image a_isKept a_row a_sight a_ways a_ends a_tried v_storeys v_jacks v_soft v_pairs v_bytes v_position v_tokenAt v_token v_digits v_number v_faultAt v_readMany v_readStoreys v_readPairs v_rows v_sights v_now v_tried v_storey v_pair) sz)) (va_Qi (fun (v : Int32) (u : (Nat → Int32)) => post v u) (fun u t => va_P E.1 vwCl (w_X5_without E a_t a_storey a_wind a_pair a_text a_read a_now a_image a_isKept a_row a_sight a_ways a_ends a_tried v_storeys v_jacks v_soft v_pairs v_bytes v_position v_tokenAt v_token v_digits v_number v_faultAt v_readMany v_readStoreys v_readPairs v_rows v_sights v_now u v_storey v_pair) t.heap) (va_A (w_X5_without E a_t a_storey a_wind a_pair a_text a_read a_now a_image a_isKept a_row a_sight a_ways a_ends a_tried v_storeys v_jacks v_soft v_pairs v_bytes v_position v_tokenAt v_token v_digits v_number v_faultAt v_readMany v_readStoreys v_readPairs v_rows v_sights v_now v_tried v_storey v_pair) sz)) 0 0 (va_A (w_X5_without E a_t a_storey a_wind a_pair a_text a_read a_now a_image a_isKept a_row a_sight a_ways a_ends a_tried v_storeys v_jacks v_soft v_pairs v_bytes v_position v_tokenAt v_token v_digits v_number v_faultAt v_readMany v_readStoreys v_readPairs v_rows v_sights v_now v_tried v_storey v_pair) sz) :=
  mx_metWi (by decide) rfl rfl (fun hB hP hD hA hRet ls hl => b_X5_without E a_t a_storey a_wind a_pair a_text a_read a_now a_image a_isKept a_row a_sight a_ways a_ends a_tried v_storeys v_jacks v_soft v_pairs v_bytes v_position v_tokenAt v_token v_digits v_number v_faultAt v_readMany v_readStoreys v_readPairs v_rows v_sights v_now v_tried v_storey v_pair x1 post hB hP hD hA hRet hf ls hl)
def rm_X5_in : Room := { frames := 4, cells := 0, slots := 0, locals := 93 }
set_option maxHeartbeats 4000000 in
set_option maxRecDepth 100000 in
theorem b_X5_in {p : Program} {l : Launch} {e : Env} {s : State} {m : MethodId} {args : Array Value} {below : List Frame} {meth : Method} {c : Code} {Q : State → Prop} {A : Nat → Prop} (E : mx_E) (a_t : Nat) (a_storey : Nat) (a_wind : Nat) (a_pair : Nat) (a_text : Nat) (a_read : Nat) (a_now : Nat) (a_image : Nat) (a_isKept : Nat) (a_row : Nat) (a_sight : Nat) (a_ways : Nat) (a_ends : Nat) (a_tried : Nat) (v_storeys : Int32) (v_jacks : Int32) (v_soft : Int32) (v_pairs : Int32) (v_bytes : Int32) (v_position : Int32) (v_tokenAt : Int32) (v_token : Int64) (v_digits : Int32) (v_number : Int32) (v_faultAt : Int32) (v_readMany : Int32) (v_readStoreys : Int32) (v_readPairs : Int32) (v_rows : Int32) (v_sights : Int32) (v_now : (Nat → Int32)) (v_tried : (Nat → Int32)) (v_storey : (Nat → Int32)) (v_pair : (Nat → Int32)) (x1 : Int32) (x2 : Int32) (post : Int32 → (Nat → Int32) → Prop) (hB : mx_B p m c cX5_in 4 s args RX5 E) (hP : va_P E.1 vwCl (w_X5_in E a_t a_storey a_wind a_pair a_text a_read a_now a_image a_isKept a_row a_sight a_ways a_ends a_tried v_storeys v_jacks v_soft v_pairs v_bytes v_position v_tokenAt v_token v_digits v_number v_faultAt v_readMany v_readStoreys v_readPairs v_rows v_sights v_now v_tried v_storey v_pair) s.heap) (hD : va_D A (w_X5_in E a_t a_storey a_wind a_pair a_text a_read a_now a_image a_isKept a_row a_sight a_ways a_ends a_tried v_storeys v_jacks v_soft v_pairs v_bytes v_position v_tokenAt v_token v_digits v_number v_faultAt v_readMany v_readStoreys v_readPairs v_rows v_sights v_now v_tried v_storey v_pair)) (hA : ∀ q : Nat, s.heap.size ≤ q → A q) (hRet : ∀ (v : Int32) (u : (Nat → Int32)) (pc : Nat) (ls : Array Slot) (H : Heap) (locs : List Loc), decode cX5_in pc = .ok (.ireturn, 1) → post v u → va_P E.1 vwCl (w_X5_in E a_t a_storey a_wind a_pair a_text a_read a_now a_image a_isKept a_row a_sight a_ways a_ends a_tried v_storeys v_jacks v_soft v_pairs v_bytes v_position v_tokenAt v_token v_digits v_number v_faultAt v_readMany v_readStoreys v_readPairs v_rows v_sights v_now u v_storey v_pair) H → va_S A s.heap H locs → W p l e rm_X5_in s m args below meth c H locs 0 0 Q (F0 m pc ls [.int v])) (hf : f_X5_in v_storeys v_now v_jacks v_storey v_pairs v_pair v_tried x1 x2 post) (ls : Array Slot) (hl : lv_has ls 4 [(0, .ref a_t), (1, .int x1), (2, .int x2)]) : W p l e rm_X5_in s m args below meth c s.heap [] 0 0 Q (F0 m 0 ls []) := by
  have hx := hB.x
  have hb := hB.b
  have hS : va_S A s.heap s.heap [] := va_S.rf
  have J_99 : ∀ (j99_v_tried : (Nat → Int32)) (ls : Array Slot) (H : Heap) (locs : List Loc), f_X5_in_99 v_storeys v_now v_jacks v_storey v_pairs v_pair post j99_v_tried → lv_has ls 4 [(0, .ref a_t)] → va_P E.1 vwCl (w_X5_in E a_t a_storey a_wind a_pair a_text a_read a_now a_image a_isKept a_row a_sight a_ways a_ends a_tried v_storeys v_jacks v_soft v_pairs v_bytes v_position v_tokenAt v_token v_digits v_number v_faultAt v_readMany v_readStoreys v_readPairs v_rows v_sights v_now j99_v_tried v_storey v_pair) H → va_D A (w_X5_in E a_t a_storey a_wind a_pair a_text a_read a_now a_image a_isKept a_row a_sight a_ways a_ends a_tried v_storeys v_jacks v_soft v_pairs v_bytes v_position v_tokenAt v_token v_digits v_number v_faultAt v_readMany v_readStoreys v_readPairs v_rows v_sights v_now j99_v_tried v_storey v_pair) → va_S A s.heap H locs → W p l e rm_X5_in s m args below meth c H locs 0 0 Q (F0 m 99 ls []) := by
    intro j99_v_tried ls H locs hf hl hP hD hS
    refine lv_aload_n hx hb dX5_in_99 rfl (lv_at hl 0 rfl) ?_
    refine lv_aload_n hx hb dX5_in_100 rfl (lv_at hl 0 rfl) ?_
    refine gf_X5_32 hB hP 0 rfl rfl dX5_in_101 ?_
    refine lv_iconst hx hb dX5_in_104 kc_i_0 ?_
    obtain ⟨h_in, hf⟩ := hf
    refine va_iald hx hb hB.K hP 1 0 rfl rfl h_in dX5_in_105 ?_
    refine lv_iconst hx hb dX5_in_106 kc_i_1 ?_
    refine lv_iadd hx hb dX5_in_107 ?_
    refine mx_gi (mx_runV (As := [.int ((v_now (0 : Int32).toNatClampNeg) + 1)]) (rest := []) hB (c_X5_firstWrong l E a_t a_storey a_wind a_pair a_text a_read a_now a_image a_isKept a_row a_sight a_ways a_ends a_tried v_storeys v_jacks v_soft v_pairs v_bytes v_position v_tokenAt v_token v_digits v_number v_faultAt v_readMany v_readStoreys v_readPairs v_rows v_sights j99_v_tried v_storey v_pair ((v_now (0 : Int32).toNatClampNeg) + 1) _ hf) sB_X5_firstWrong sV_X5_firstWrong wml_X5_218 rfl (mx_ppV hB hP [0, 2, 3, 4] rfl 5 rfl rfl rfl) hl.1 rfl (Nat.le_of_ble_eq_true rfl) dX5_in_108 ⟨Nat.zero_le _, Nat.zero_le _⟩) (fun r1 hf => ?_)
    refine lv_iconst hx hb dX5_in_111 kc_i_m1 ?_
    refine lv_icmp_ne (tgt := 119) hx hb dX5_in_112 (by decide) (fun c112 => ?_) (fun c112 => ?_)
    · have hf := hf.1 c112
      refine lv_iconst hx hb dX5_in_119 kc_i_0 ?_
      exact hRet 0 j99_v_tried 120 ls H locs dX5_in_120 hf hP hS
    · have hf := hf.2 c112
      refine lv_iconst hx hb dX5_in_115 kc_i_1 ?_
      refine lv_goto (tgt := 120) hx hb dX5_in_116 (by decide) ?_
      exact hRet 1 j99_v_tried 120 ls H locs dX5_in_120 hf hP hS
  have L_44 : ∀ (g44_x1 : Int32) (g44_x2 : Int32) (n : Nat) (j44_x3 : Int32) (j44_v_tried : (Nat → Int32)) (ls : Array Slot) (H : Heap) (locs : List Loc), mx_l2 (f_X5_in_44 v_storeys v_now v_jacks v_storey v_pairs v_pair post g44_x1 g44_x2) n j44_x3 j44_v_tried → lv_has ls 4 [(0, .ref a_t), (1, .int g44_x1), (2, .int g44_x2), (3, .int j44_x3)] → va_P E.1 vwCl (w_X5_in E a_t a_storey a_wind a_pair a_text a_read a_now a_image a_isKept a_row a_sight a_ways a_ends a_tried v_storeys v_jacks v_soft v_pairs v_bytes v_position v_tokenAt v_token v_digits v_number v_faultAt v_readMany v_readStoreys v_readPairs v_rows v_sights v_now j44_v_tried v_storey v_pair) H → va_D A (w_X5_in E a_t a_storey a_wind a_pair a_text a_read a_now a_image a_isKept a_row a_sight a_ways a_ends a_tried v_storeys v_jacks v_soft v_pairs v_bytes v_position v_tokenAt v_token v_digits v_number v_faultAt v_readMany v_readStoreys v_readPairs v_rows v_sights v_now j44_v_tried v_storey v_pair) → va_S A s.heap H locs → W p l e rm_X5_in s m args below meth c H locs 0 0 Q (F0 m 44 ls []) := by
    intro g44_x1 g44_x2 n_44
    induction n_44 with
    | zero =>
      intro j44_x3 j44_v_tried ls H locs hf hl hP hD hS
      exact False.elim hf
    | succ n_44 ih_44 =>
      have J_92 : ∀ (j92_x3 : Int32) (j92_k1 : Int32) (j92_k2 : Int32) (j92_v_tried : (Nat → Int32)) (ls : Array Slot) (H : Heap) (locs : List Loc), f_X5_in_92 v_storeys v_now v_jacks v_storey v_pairs v_pair (mx_l2 (f_X5_in_44 v_storeys v_now v_jacks v_storey v_pairs v_pair post g44_x1 g44_x2) n_44) post g44_x1 g44_x2 j92_x3 j92_k1 j92_k2 j92_v_tried → lv_has ls 4 [(0, .ref a_t), (1, .int g44_x1), (2, .int g44_x2), (3, .int j92_x3)] → va_P E.1 vwCl (w_X5_in E a_t a_storey a_wind a_pair a_text a_read a_now a_image a_isKept a_row a_sight a_ways a_ends a_tried v_storeys v_jacks v_soft v_pairs v_bytes v_position v_tokenAt v_token v_digits v_number v_faultAt v_readMany v_readStoreys v_readPairs v_rows v_sights v_now j92_v_tried v_storey v_pair) H → va_D A (w_X5_in E a_t a_storey a_wind a_pair a_text a_read a_now a_image a_isKept a_row a_sight a_ways a_ends a_tried v_storeys v_jacks v_soft v_pairs v_bytes v_position v_tokenAt v_token v_digits v_number v_faultAt v_readMany v_readStoreys v_readPairs v_rows v_sights v_now j92_v_tried v_storey v_pair) → va_S A s.heap H locs → W p l e rm_X5_in s m args below meth c H locs 0 0 Q (F0 m 92 ls [.int j92_k2, .int j92_k1, .ref a_tried]) := by
        intro j92_x3 j92_k1 j92_k2 j92_v_tried ls H locs hf hl hP hD hS
        obtain ⟨h_in, hf⟩ := hf
        refine va_iast hx hb hB.K hP hD hS 2 0 rfl rfl h_in dX5_in_92 (fun H locs hP hD hS => ?_)
        have hP : va_P E.1 vwCl (w_X5_in E a_t a_storey a_wind a_pair a_text a_read a_now a_image a_isKept a_row a_sight a_ways a_ends a_tried v_storeys v_jacks v_soft v_pairs v_bytes v_position v_tokenAt v_token v_digits v_number v_faultAt v_readMany v_readStoreys v_readPairs v_rows v_sights v_now (upd j92_v_tried j92_k1.toNatClampNeg j92_k2) v_storey v_pair) H := hP
        have hD : va_D A (w_X5_in E a_t a_storey a_wind a_pair a_text a_read a_now a_image a_isKept a_row a_sight a_ways a_ends a_tried v_storeys v_jacks v_soft v_pairs v_bytes v_position v_tokenAt v_token v_digits v_number v_faultAt v_readMany v_readStoreys v_readPairs v_rows v_sights v_now (upd j92_v_tried j92_k1.toNatClampNeg j92_k2) v_storey v_pair) := hD
        refine lv_iinc (v := j92_x3 + 1) (lv' := [(3, .int (j92_x3 + 1)), (0, .ref a_t), (1, .int g44_x1), (2, .int g44_x2)]) hx hb dX5_in_93 hl (k := 3) rfl (by rw [kc_i_1]) (by decide) rfl (fun ls hl => ?_)
        refine lv_goto (tgt := 44) hx hb dX5_in_96 (by decide) ?_
        exact ih_44 (j92_x3 + 1) (upd j92_v_tried j92_k1.toNatClampNeg j92_k2) ls H locs hf (lv_sub hl [1, 2, 3, 0] rfl) hP hD hS
      intro j44_x3 j44_v_tried ls H locs hf hl hP hD hS
      replace hf : f_X5_in_44 v_storeys v_now v_jacks v_storey v_pairs v_pair post g44_x1 g44_x2 (mx_l2 (f_X5_in_44 v_storeys v_now v_jacks v_storey v_pairs v_pair post g44_x1 g44_x2) n_44) j44_x3 j44_v_tried := hf
      refine lv_iload_n hx hb dX5_in_44 rfl (lv_at hl 3 rfl) ?_
      refine lv_aload_n hx hb dX5_in_45 rfl (lv_at hl 0 rfl) ?_
      refine gf_X5_32 hB hP 0 rfl rfl dX5_in_46 ?_
      refine lv_iconst hx hb dX5_in_49 kc_i_0 ?_
      obtain ⟨h_in, hf⟩ := hf
      refine va_iald hx hb hB.K hP 1 0 rfl rfl h_in dX5_in_50 ?_
      refine lv_icmp_gt (tgt := 99) hx hb dX5_in_51 (by decide) (fun c51 => ?_) (fun c51 => ?_)
      · have hf := hf.1 c51
        exact J_99 j44_v_tried ls H locs hf (lv_sub hl [0] rfl) hP hD hS
      · have hf := hf.2 c51
        refine lv_aload_n hx hb dX5_in_54 rfl (lv_at hl 0 rfl) ?_
        refine gf_X5_54 hB hP 0 rfl rfl dX5_in_55 ?_
        refine lv_iload_n hx hb dX5_in_58 rfl (lv_at hl 3 rfl) ?_
        refine lv_iload_n hx hb dX5_in_59 rfl (lv_at hl 3 rfl) ?_
        refine lv_iload_n hx hb dX5_in_60 rfl (lv_at hl 2 rfl) ?_
        refine lv_icmp_ge (tgt := 75) hx hb dX5_in_61 (by decide) (fun c61 => ?_) (fun c61 => ?_)
        · have hf := hf.1 c61
          refine lv_iload_n hx hb dX5_in_75 rfl (lv_at hl 3 rfl) ?_
          refine lv_iload_n hx hb dX5_in_76 rfl (lv_at hl 2 rfl) ?_
          refine lv_icmp_ne (tgt := 84) hx hb dX5_in_77 (by decide) (fun c77 => ?_) (fun c77 => ?_)
          · have hf := hf.1 c77
            refine lv_aload_n hx hb dX5_in_84 rfl (lv_at hl 0 rfl) ?_
            refine gf_X5_32 hB hP 0 rfl rfl dX5_in_85 ?_
            refine lv_iconst hx hb dX5_in_88 kc_i_1 ?_
            refine lv_iload_n hx hb dX5_in_89 rfl (lv_at hl 3 rfl) ?_
            refine lv_iadd hx hb dX5_in_90 ?_
            obtain ⟨h_in, hf⟩ := hf
            refine va_iald hx hb hB.K hP 1 0 rfl rfl h_in dX5_in_91 ?_
            exact J_92 j44_x3 j44_x3 (v_now (1 + j44_x3).toNatClampNeg) j44_v_tried ls H locs hf (lv_sub hl [0, 1, 2, 3] rfl) hP hD hS
          · have hf := hf.2 c77
            refine lv_iload_n hx hb dX5_in_80 rfl (lv_at hl 1 rfl) ?_
            refine lv_goto (tgt := 92) hx hb dX5_in_81 (by decide) ?_
            exact J_92 j44_x3 j44_x3 g44_x1 j44_v_tried ls H locs hf (lv_sub hl [0, 1, 2, 3] rfl) hP hD hS
        · have hf := hf.2 c61
          refine lv_aload_n hx hb dX5_in_64 rfl (lv_at hl 0 rfl) ?_
          refine gf_X5_32 hB hP 0 rfl rfl dX5_in_65 ?_
          refine lv_iconst hx hb dX5_in_68 kc_i_2 ?_
          refine lv_iload_n hx hb dX5_in_69 rfl (lv_at hl 3 rfl) ?_
          refine lv_iadd hx hb dX5_in_70 ?_
          obtain ⟨h_in, hf⟩ := hf
          refine va_iald hx hb hB.K hP 1 0 rfl rfl h_in dX5_in_71 ?_
          refine lv_goto (tgt := 92) hx hb dX5_in_72 (by decide) ?_
          exact J_92 j44_x3 j44_x3 (v_now (2 + j44_x3).toNatClampNeg) j44_v_tried ls H locs hf (lv_sub hl [0, 1, 2, 3] rfl) hP hD hS
  obtain ⟨H, locs, eH, eL⟩ : ∃ (H : Heap) (locs : List Loc), H = s.heap ∧ locs = [] := ⟨_, _, rfl, rfl⟩
  rw [← eH] at hP
  have hS : va_S A s.heap H locs := by rw [eH, eL]; exact hS
  show W p l e rm_X5_in s m args below meth c s.heap [] 0 0 Q (F0 m 0 ls [])
  rw [← eH, ← eL]
  refine lv_aload_n hx hb dX5_in_0 rfl (lv_at hl 0 rfl) ?_
  refine lv_iload_n hx hb dX5_in_1 rfl (lv_at hl 1 rfl) ?_
  refine mx_gi (mx_runV (As := [.int x1]) (rest := []) hB (c_X5_isStorey l E a_t a_storey a_wind a_pair a_text a_read a_now a_image a_isKept a_row a_sight a_ways a_ends a_tried v_storeys v_jacks v_soft v_pairs v_bytes v_position v_tokenAt v_token v_digits v_number v_faultAt v_readMany v_readStoreys v_readPairs v_rows v_sights x1 _ hf) sB_X5_isStorey sV_X5_isStorey wml_X5_172 rfl (mx_ppV hB hP [0] rfl 5 rfl rfl rfl) hl.1 rfl (Nat.le_of_ble_eq_true rfl) dX5_in_2 ⟨Nat.zero_le _, Nat.zero_le _⟩) (fun r1 hf => ?_)
  refine lv_if_ne (tgt := 11) hx hb dX5_in_5 (by decide) (fun c5 => ?_) (fun c5 => ?_)
  · have hf := hf.1 c5
    refine lv_iload_n hx hb dX5_in_11 rfl (lv_at hl 2 rfl) ?_
    refine lv_iconst hx hb dX5_in_12 kc_i_0 ?_
    refine lv_aload_n hx hb dX5_in_13 rfl (lv_at hl 0 rfl) ?_
    refine gf_X5_32 hB hP 0 rfl rfl dX5_in_14 ?_
    refine lv_iconst hx hb dX5_in_17 kc_i_0 ?_
    obtain ⟨h_in, hf⟩ := hf
    refine va_iald hx hb hB.K hP 1 0 rfl rfl h_in dX5_in_18 ?_
    refine mx_gi (mx_runS (As := [.int x2, .int 0, .int (v_now (0 : Int32).toNatClampNeg)]) (rest := []) hB (c_X5_in1 l E x2 0 (v_now (0 : Int32).toNatClampNeg) _ hf) sB_X5_in1 wst_X5_in1 wml_X5_60 rfl (mx_pp hB hP [] rfl) hl.1 rfl (Nat.le_of_ble_eq_true rfl) dX5_in_19 ⟨Nat.zero_le _, Nat.zero_le _⟩) (fun r2 hf => ?_)
    refine lv_if_ne (tgt := 28) hx hb dX5_in_22 (by decide) (fun c22 => ?_) (fun c22 => ?_)
    · have hf := hf.1 c22
      refine lv_aload_n hx hb dX5_in_28 rfl (lv_at hl 0 rfl) ?_
      refine mx_gi (mx_runV (As := []) (rest := []) hB (c_X5_upSet l E a_t a_storey a_wind a_pair a_text a_read a_now a_image a_isKept a_row a_sight a_ways a_ends a_tried v_storeys v_jacks v_soft v_pairs v_bytes v_position v_tokenAt v_token v_digits v_number v_faultAt v_readMany v_readStoreys v_readPairs v_rows v_sights v_now _ hf) sB_X5_upSet sV_X5_upSet wml_X5_192 rfl (mx_ppV hB hP [0, 1] rfl 5 rfl rfl rfl) hl.1 rfl (Nat.le_of_ble_eq_true rfl) dX5_in_29 ⟨Nat.zero_le _, Nat.zero_le _⟩) (fun r3 hf => ?_)
      refine lv_iload_n hx hb dX5_in_32 rfl (lv_at hl 1 rfl) ?_
      refine mx_gi (mx_runS (As := [.int r3, .int x1]) (rest := []) hB (c_X5_has l E r3 x1 _ hf) sB_X5_has wst_X5_has wml_X5_179 rfl (mx_pp hB hP [] rfl) hl.1 rfl (Nat.le_of_ble_eq_true rfl) dX5_in_33 ⟨Nat.zero_le _, Nat.zero_le _⟩) (fun r4 hf => ?_)
      refine lv_if_eq (tgt := 42) hx hb dX5_in_36 (by decide) (fun c36 => ?_) (fun c36 => ?_)
      · have hf := hf.1 c36
        refine lv_iconst hx hb dX5_in_42 kc_i_0 ?_
        refine lv_istore_n (lv' := [(3, .int 0), (0, .ref a_t), (1, .int x1), (2, .int x2)]) hx hb dX5_in_43 rfl hl (by decide) rfl (fun ls hl => ?_)
        obtain ⟨n9, hf⟩ := hf
        exact L_44 x1 x2 n9 0 v_tried ls H locs hf (lv_sub hl [1, 2, 3, 0] rfl) hP hD hS
      · have hf := hf.2 c36
        refine lv_bipush hx hb dX5_in_39 kc_b_m4 ?_
        exact hRet (-4) v_tried 41 ls H locs dX5_in_41 hf hP hS
    · have hf := hf.2 c22
      refine lv_bipush hx hb dX5_in_25 kc_b_m3 ?_
      exact hRet (-3) v_tried 27 ls H locs dX5_in_27 hf hP hS
  · have hf := hf.2 c5
    refine lv_bipush hx hb dX5_in_8 kc_b_m2 ?_
    exact hRet (-2) v_tried 10 ls H locs dX5_in_10 hf hP hS
theorem c_X5_in (l : Launch) (E : mx_E) (a_t : Nat) (a_storey : Nat) (a_wind : Nat) (a_pair : Nat) (a_text : Nat) (a_read : Nat) (a_now : Nat) (a_image : Nat) (a_isKept : Nat) (a_row : Nat) (a_sight : Nat) (a_ways : Nat) (a_ends : Nat) (a_tried : Nat) (v_storeys : Int32) (v_jacks : Int32) (v_soft : Int32) (v_pairs : Int32) (v_bytes : Int32) (v_position : Int32) (v_tokenAt : Int32) (v_token : Int64) (v_digits : Int32) (v_number : Int32) (v_faultAt : Int32) (v_readMany : Int32) (v_readStoreys : Int32) (v_readPairs : Int32) (v_rows : Int32) (v_sights : Int32) (v_now : (Nat → Int32)) (v_tried : (Nat → Int32)) (v_storey : (Nat → Int32)) (v_pair : (Nat → Int32)) (sz : Nat) (x1 : Int32) (x2 : Int32) (post : Int32 → (Nat → Int32) → Prop) (hf : f_X5_in v_storeys v_now v_jacks v_storey v_pairs v_pair v_tried x1 x2 post) : Met l yX5_in (Cond.code yX5_in cX5_in 4 (some .int) :: mx_WS) rm_X5_in (va_Pc [.ref a_t, .int x1, .int x2] (mx_Pw E (w_X5_in E a_t a_storey a_wind a_pair a_text a_read a_now a_image a_isKept a_row a_sight a_ways a_ends a_tried v_storeys v_jacks v_soft v_pairs v_bytes v_position v_tokenAt v_token v_digits v_number v_faultAt v_readMany v_readStoreys v_readPairs v_rows v_sights v_now v_tried v_storey v_pair) sz)) (va_Qi (fun (v : Int32) (u : (Nat → Int32)) => post v u) (fun u t => va_P E.1 vwCl (w_X5_in E a_t a_storey a_wind a_pair a_text a_read a_now a_image a_isKept a_row a_sight a_ways a_ends a_tried v_storeys v_jacks v_soft v_pairs v_bytes v_position v_tokenAt v_token v_digits v_number v_faultAt v_readMany v_readStoreys v_readPairs v_rows v_sights v_now u v_storey v_pair) t.heap) (va_A (w_X5_in E a_t a_storey a_wind a_pair a_text a_read a_now a_image a_isKept a_row a_sight a_ways a_ends a_tried v_storeys v_jacks v_soft v_pairs v_bytes v_position v_tokenAt v_token v_digits v_number v_faultAt v_readMany v_readStoreys v_readPairs v_rows v_sights v_now v_tried v_storey v_pair) sz)) 0 0 (va_A (w_X5_in E a_t a_storey a_wind a_pair a_text a_read a_now a_image a_isKept a_row a_sight a_ways a_ends a_tried v_storeys v_jacks v_soft v_pairs v_bytes v_position v_tokenAt v_token v_digits v_number v_faultAt v_readMany v_readStoreys v_readPairs v_rows v_sights v_now v_tried v_storey v_pair) sz) :=
  mx_metWi (by decide) rfl rfl (fun hB hP hD hA hRet ls hl => b_X5_in E a_t a_storey a_wind a_pair a_text a_read a_now a_image a_isKept a_row a_sight a_ways a_ends a_tried v_storeys v_jacks v_soft v_pairs v_bytes v_position v_tokenAt v_token v_digits v_number v_faultAt v_readMany v_readStoreys v_readPairs v_rows v_sights v_now v_tried v_storey v_pair x1 x2 post hB hP hD hA hRet hf ls hl)
def rm_X5_row : Room := { frames := 2, cells := 0, slots := 0, locals := 43 }
set_option maxHeartbeats 4000000 in
set_option maxRecDepth 100000 in
theorem b_X5_row {p : Program} {l : Launch} {e : Env} {s : State} {m : MethodId} {args : Array Value} {below : List Frame} {meth : Method} {c : Code} {Q : State → Prop} {A : Nat → Prop} (E : mx_E) (a_t : Nat) (a_storey : Nat) (a_wind : Nat) (a_pair : Nat) (a_text : Nat) (a_read : Nat) (a_now : Nat) (a_image : Nat) (a_isKept : Nat) (a_row : Nat) (a_sight : Nat) (a_ways : Nat) (a_ends : Nat) (a_tried : Nat) (v_storeys : Int32) (v_jacks : Int32) (v_soft : Int32) (v_pairs : Int32) (v_bytes : Int32) (v_position : Int32) (v_tokenAt : Int32) (v_token : Int64) (v_digits : Int32) (v_number : Int32) (v_faultAt : Int32) (v_readMany : Int32) (v_readStoreys : Int32) (v_readPairs : Int32) (v_rows : Int32) (v_sights : Int32) (v_row : (Nat → Int32)) (x1 : Int32) (post : Int32 → (Nat → Int32) → Int32 → Prop) (hB : mx_B p m c cX5_row 2 s args RX5 E) (hP : va_P E.1 vwCl (w_X5_row E a_t a_storey a_wind a_pair a_text a_read a_now a_image a_isKept a_row a_sight a_ways a_ends a_tried v_storeys v_jacks v_soft v_pairs v_bytes v_position v_tokenAt v_token v_digits v_number v_faultAt v_readMany v_readStoreys v_readPairs v_rows v_sights v_row) s.heap) (hD : va_D A (w_X5_row E a_t a_storey a_wind a_pair a_text a_read a_now a_image a_isKept a_row a_sight a_ways a_ends a_tried v_storeys v_jacks v_soft v_pairs v_bytes v_position v_tokenAt v_token v_digits v_number v_faultAt v_readMany v_readStoreys v_readPairs v_rows v_sights v_row)) (hA : ∀ q : Nat, s.heap.size ≤ q → A q) (hRet : ∀ (v : Int32) (u : (Nat → Int32) × Int32) (pc : Nat) (ls : Array Slot) (H : Heap) (locs : List Loc), decode cX5_row pc = .ok (.ireturn, 1) → post v u.1 u.2 → va_P E.1 vwCl (w_X5_row E a_t a_storey a_wind a_pair a_text a_read a_now a_image a_isKept a_row a_sight a_ways a_ends a_tried v_storeys v_jacks v_soft v_pairs v_bytes v_position v_tokenAt v_token v_digits v_number v_faultAt v_readMany v_readStoreys v_readPairs u.2 v_sights u.1) H → va_S A s.heap H locs → W p l e rm_X5_row s m args below meth c H locs 0 0 Q (F0 m pc ls [.int v])) (hf : f_X5_row v_storeys v_row v_rows x1 post) (ls : Array Slot) (hl : lv_has ls 2 [(0, .ref a_t), (1, .int x1)]) : W p l e rm_X5_row s m args below meth c s.heap [] 0 0 Q (F0 m 0 ls []) := by
  have hx := hB.x
  have hb := hB.b
  have hS : va_S A s.heap s.heap [] := va_S.rf
  obtain ⟨H, locs, eH, eL⟩ : ∃ (H : Heap) (locs : List Loc), H = s.heap ∧ locs = [] := ⟨_, _, rfl, rfl⟩
  rw [← eH] at hP
  have hS : va_S A s.heap H locs := by rw [eH, eL]; exact hS
  show W p l e rm_X5_row s m args below meth c s.heap [] 0 0 Q (F0 m 0 ls [])
  rw [← eH, ← eL]
  refine lv_aload_n hx hb dX5_row_0 rfl (lv_at hl 0 rfl) ?_
  refine lv_iload_n hx hb dX5_row_1 rfl (lv_at hl 1 rfl) ?_
  refine mx_gi (mx_runV (As := [.int x1]) (rest := []) hB (c_X5_isStorey l E a_t a_storey a_wind a_pair a_text a_read a_now a_image a_isKept a_row a_sight a_ways a_ends a_tried v_storeys v_jacks v_soft v_pairs v_bytes v_position v_tokenAt v_token v_digits v_number v_faultAt v_readMany v_readStoreys v_readPairs v_rows v_sights x1 _ hf) sB_X5_isStorey sV_X5_isStorey wml_X5_172 rfl (mx_ppV hB hP [0] rfl 5 rfl rfl rfl) hl.1 rfl (Nat.le_of_ble_eq_true rfl) dX5_row_2 ⟨Nat.zero_le _, Nat.zero_le _⟩) (fun r1 hf => ?_)
  refine lv_if_ne (tgt := 11) hx hb dX5_row_5 (by decide) (fun c5 => ?_) (fun c5 => ?_)
  · have hf := hf.1 c5
    refine lv_aload_n hx hb dX5_row_11 rfl (lv_at hl 0 rfl) ?_
    refine gf_X5_166 hB hP 0 rfl rfl dX5_row_12 ?_
    refine lv_bipush hx hb dX5_row_15 kc_b_8 ?_
    refine lv_icmp_ne (tgt := 23) hx hb dX5_row_17 (by decide) (fun c17 => ?_) (fun c17 => ?_)
    · have hf := hf.1 c17
      refine lv_aload_n hx hb dX5_row_23 rfl (lv_at hl 0 rfl) ?_
      refine gf_X5_42 hB hP 0 rfl rfl dX5_row_24 ?_
      refine lv_aload_n hx hb dX5_row_27 rfl (lv_at hl 0 rfl) ?_
      refine gf_X5_166 hB hP 0 rfl rfl dX5_row_28 ?_
      refine lv_iload_n hx hb dX5_row_31 rfl (lv_at hl 1 rfl) ?_
      obtain ⟨h_in, hf⟩ := hf
      refine va_iast hx hb hB.K hP hD hS 1 0 rfl rfl h_in dX5_row_32 (fun H locs hP hD hS => ?_)
      have hP : va_P E.1 vwCl (w_X5_row E a_t a_storey a_wind a_pair a_text a_read a_now a_image a_isKept a_row a_sight a_ways a_ends a_tried v_storeys v_jacks v_soft v_pairs v_bytes v_position v_tokenAt v_token v_digits v_number v_faultAt v_readMany v_readStoreys v_readPairs v_rows v_sights (upd v_row v_rows.toNatClampNeg x1)) H := hP
      have hD : va_D A (w_X5_row E a_t a_storey a_wind a_pair a_text a_read a_now a_image a_isKept a_row a_sight a_ways a_ends a_tried v_storeys v_jacks v_soft v_pairs v_bytes v_position v_tokenAt v_token v_digits v_number v_faultAt v_readMany v_readStoreys v_readPairs v_rows v_sights (upd v_row v_rows.toNatClampNeg x1)) := hD
      refine lv_aload_n hx hb dX5_row_33 rfl (lv_at hl 0 rfl) ?_
      refine lv_dup hx hb dX5_row_34 rfl ?_
      refine gf_X5_166 hB hP 0 rfl rfl dX5_row_35 ?_
      refine lv_iconst hx hb dX5_row_38 kc_i_1 ?_
      refine lv_iadd hx hb dX5_row_39 ?_
      refine pf_X5_166 hB hP hD hS 0 rfl (Nat.le_of_ble_eq_true rfl) dX5_row_40 (w_X5_row E a_t a_storey a_wind a_pair a_text a_read a_now a_image a_isKept a_row a_sight a_ways a_ends a_tried v_storeys v_jacks v_soft v_pairs v_bytes v_position v_tokenAt v_token v_digits v_number v_faultAt v_readMany v_readStoreys v_readPairs (v_rows + 1) v_sights (upd v_row v_rows.toNatClampNeg x1)) rfl (fun H locs hP hD hS => ?_)
      refine lv_aload_n hx hb dX5_row_43 rfl (lv_at hl 0 rfl) ?_
      refine gf_X5_166 hB hP 0 rfl rfl dX5_row_44 ?_
      exact hRet (v_rows + 1) (upd v_row v_rows.toNatClampNeg x1, v_rows + 1) 47 ls H locs dX5_row_47 hf hP hS
    · have hf := hf.2 c17
      refine lv_bipush hx hb dX5_row_20 kc_b_m5 ?_
      exact hRet (-5) (v_row, v_rows) 22 ls H locs dX5_row_22 hf hP hS
  · have hf := hf.2 c5
    refine lv_bipush hx hb dX5_row_8 kc_b_m2 ?_
    exact hRet (-2) (v_row, v_rows) 10 ls H locs dX5_row_10 hf hP hS
theorem c_X5_row (l : Launch) (E : mx_E) (a_t : Nat) (a_storey : Nat) (a_wind : Nat) (a_pair : Nat) (a_text : Nat) (a_read : Nat) (a_now : Nat) (a_image : Nat) (a_isKept : Nat) (a_row : Nat) (a_sight : Nat) (a_ways : Nat) (a_ends : Nat) (a_tried : Nat) (v_storeys : Int32) (v_jacks : Int32) (v_soft : Int32) (v_pairs : Int32) (v_bytes : Int32) (v_position : Int32) (v_tokenAt : Int32) (v_token : Int64) (v_digits : Int32) (v_number : Int32) (v_faultAt : Int32) (v_readMany : Int32) (v_readStoreys : Int32) (v_readPairs : Int32) (v_rows : Int32) (v_sights : Int32) (v_row : (Nat → Int32)) (sz : Nat) (x1 : Int32) (post : Int32 → (Nat → Int32) → Int32 → Prop) (hf : f_X5_row v_storeys v_row v_rows x1 post) : Met l yX5_row (Cond.code yX5_row cX5_row 2 (some .int) :: mx_WS) rm_X5_row (va_Pc [.ref a_t, .int x1] (mx_Pw E (w_X5_row E a_t a_storey a_wind a_pair a_text a_read a_now a_image a_isKept a_row a_sight a_ways a_ends a_tried v_storeys v_jacks v_soft v_pairs v_bytes v_position v_tokenAt v_token v_digits v_number v_faultAt v_readMany v_readStoreys v_readPairs v_rows v_sights v_row) sz)) (va_Qi (fun (v : Int32) (u : (Nat → Int32) × Int32) => post v u.1 u.2) (fun u t => va_P E.1 vwCl (w_X5_row E a_t a_storey a_wind a_pair a_text a_read a_now a_image a_isKept a_row a_sight a_ways a_ends a_tried v_storeys v_jacks v_soft v_pairs v_bytes v_position v_tokenAt v_token v_digits v_number v_faultAt v_readMany v_readStoreys v_readPairs u.2 v_sights u.1) t.heap) (va_A (w_X5_row E a_t a_storey a_wind a_pair a_text a_read a_now a_image a_isKept a_row a_sight a_ways a_ends a_tried v_storeys v_jacks v_soft v_pairs v_bytes v_position v_tokenAt v_token v_digits v_number v_faultAt v_readMany v_readStoreys v_readPairs v_rows v_sights v_row) sz)) 0 0 (va_A (w_X5_row E a_t a_storey a_wind a_pair a_text a_read a_now a_image a_isKept a_row a_sight a_ways a_ends a_tried v_storeys v_jacks v_soft v_pairs v_bytes v_position v_tokenAt v_token v_digits v_number v_faultAt v_readMany v_readStoreys v_readPairs v_rows v_sights v_row) sz) :=
  mx_metWi (by decide) rfl rfl (fun hB hP hD hA hRet ls hl => b_X5_row E a_t a_storey a_wind a_pair a_text a_read a_now a_image a_isKept a_row a_sight a_ways a_ends a_tried v_storeys v_jacks v_soft v_pairs v_bytes v_position v_tokenAt v_token v_digits v_number v_faultAt v_readMany v_readStoreys v_readPairs v_rows v_sights v_row x1 post hB hP hD hA hRet hf ls hl)
def rm_X5_burn : Room := { frames := 0, cells := 0, slots := 0, locals := 0 }
set_option maxHeartbeats 4000000 in
set_option maxRecDepth 100000 in
theorem b_X5_burn {p : Program} {l : Launch} {e : Env} {s : State} {m : MethodId} {args : Array Value} {below : List Frame} {meth : Method} {c : Code} {Q : State → Prop} {A : Nat → Prop} (E : mx_E) (a_t : Nat) (a_storey : Nat) (a_wind : Nat) (a_pair : Nat) (a_text : Nat) (a_read : Nat) (a_now : Nat) (a_image : Nat) (a_isKept : Nat) (a_row : Nat) (a_sight : Nat) (a_ways : Nat) (a_ends : Nat) (a_tried : Nat) (v_storeys : Int32) (v_jacks : Int32) (v_soft : Int32) (v_pairs : Int32) (v_bytes : Int32) (v_position : Int32) (v_tokenAt : Int32) (v_token : Int64) (v_digits : Int32) (v_number : Int32) (v_faultAt : Int32) (v_readMany : Int32) (v_readStoreys : Int32) (v_readPairs : Int32) (v_rows : Int32) (v_sights : Int32)  (post : Int32 → Int32 → Prop) (hB : mx_B p m c cX5_burn 2 s args RX5 E) (hP : va_P E.1 vwCl (w_X5_burn E a_t a_storey a_wind a_pair a_text a_read a_now a_image a_isKept a_row a_sight a_ways a_ends a_tried v_storeys v_jacks v_soft v_pairs v_bytes v_position v_tokenAt v_token v_digits v_number v_faultAt v_readMany v_readStoreys v_readPairs v_rows v_sights) s.heap) (hD : va_D A (w_X5_burn E a_t a_storey a_wind a_pair a_text a_read a_now a_image a_isKept a_row a_sight a_ways a_ends a_tried v_storeys v_jacks v_soft v_pairs v_bytes v_position v_tokenAt v_token v_digits v_number v_faultAt v_readMany v_readStoreys v_readPairs v_rows v_sights)) (hA : ∀ q : Nat, s.heap.size ≤ q → A q) (hRet : ∀ (v : Int32) (u : Int32) (pc : Nat) (ls : Array Slot) (H : Heap) (locs : List Loc), decode cX5_burn pc = .ok (.ireturn, 1) → post v u → va_P E.1 vwCl (w_X5_burn E a_t a_storey a_wind a_pair a_text a_read a_now a_image a_isKept a_row a_sight a_ways a_ends a_tried v_storeys v_jacks v_soft v_pairs v_bytes v_position v_tokenAt v_token v_digits v_number v_faultAt v_readMany v_readStoreys v_readPairs u v_sights) H → va_S A s.heap H locs → W p l e rm_X5_burn s m args below meth c H locs 0 0 Q (F0 m pc ls [.int v])) (hf : f_X5_burn v_rows post) (ls : Array Slot) (hl : lv_has ls 2 [(0, .ref a_t)]) : W p l e rm_X5_burn s m args below meth c s.heap [] 0 0 Q (F0 m 0 ls []) := by
  have hx := hB.x
  have hb := hB.b
  have hS : va_S A s.heap s.heap [] := va_S.rf
  obtain ⟨H, locs, eH, eL⟩ : ∃ (H : Heap) (locs : List Loc), H = s.heap ∧ locs = [] := ⟨_, _, rfl, rfl⟩
  rw [← eH] at hP
  have hS : va_S A s.heap H locs := by rw [eH, eL]; exact hS
  show W p l e rm_X5_burn s m args below meth c s.heap [] 0 0 Q (F0 m 0 ls [])
  rw [← eH, ← eL]
  refine lv_aload_n hx hb dX5_burn_0 rfl (lv_at hl 0 rfl) ?_
  refine gf_X5_166 hB hP 0 rfl rfl dX5_burn_1 ?_
  refine lv_istore_n (lv' := [(1, .int v_rows), (0, .ref a_t)]) hx hb dX5_burn_4 rfl hl (by decide) rfl (fun ls hl => ?_)
  refine lv_aload_n hx hb dX5_burn_5 rfl (lv_at hl 1 rfl) ?_
  refine lv_iconst hx hb dX5_burn_6 kc_i_0 ?_
  refine pf_X5_166 hB hP hD hS 0 rfl (Nat.le_of_ble_eq_true rfl) dX5_burn_7 (w_X5_burn E a_t a_storey a_wind a_pair a_text a_read a_now a_image a_isKept a_row a_sight a_ways a_ends a_tried v_storeys v_jacks v_soft v_pairs v_bytes v_position v_tokenAt v_token v_digits v_number v_faultAt v_readMany v_readStoreys v_readPairs 0 v_sights) rfl (fun H locs hP hD hS => ?_)
  refine lv_iload_n hx hb dX5_burn_10 rfl (lv_at hl 0 rfl) ?_
  exact hRet v_rows 0 11 ls H locs dX5_burn_11 hf hP hS
theorem c_X5_burn (l : Launch) (E : mx_E) (a_t : Nat) (a_storey : Nat) (a_wind : Nat) (a_pair : Nat) (a_text : Nat) (a_read : Nat) (a_now : Nat) (a_image : Nat) (a_isKept : Nat) (a_row : Nat) (a_sight : Nat) (a_ways : Nat) (a_ends : Nat) (a_tried : Nat) (v_storeys : Int32) (v_jacks : Int32) (v_soft : Int32) (v_pairs : Int32) (v_bytes : Int32) (v_position : Int32) (v_tokenAt : Int32) (v_token : Int64) (v_digits : Int32) (v_number : Int32) (v_faultAt : Int32) (v_readMany : Int32) (v_readStoreys : Int32) (v_readPairs : Int32) (v_rows : Int32) (v_sights : Int32) (sz : Nat)  (post : Int32 → Int32 → Prop) (hf : f_X5_burn v_rows post) : Met l yX5_burn (Cond.code yX5_burn cX5_burn 2 (some .int) :: mx_WS) rm_X5_burn (va_Pc [.ref a_t] (mx_Pw E (w_X5_burn E a_t a_storey a_wind a_pair a_text a_read a_now a_image a_isKept a_row a_sight a_ways a_ends a_tried v_storeys v_jacks v_soft v_pairs v_bytes v_position v_tokenAt v_token v_digits v_number v_faultAt v_readMany v_readStoreys v_readPairs v_rows v_sights) sz)) (va_Qi (fun (v : Int32) (u : Int32) => post v u) (fun u t => va_P E.1 vwCl (w_X5_burn E a_t a_storey a_wind a_pair a_text a_read a_now a_image a_isKept a_row a_sight a_ways a_ends a_tried v_storeys v_jacks v_soft v_pairs v_bytes v_position v_tokenAt v_token v_digits v_number v_faultAt v_readMany v_readStoreys v_readPairs u v_sights) t.heap) (va_A (w_X5_burn E a_t a_storey a_wind a_pair a_text a_read a_now a_image a_isKept a_row a_sight a_ways a_ends a_tried v_storeys v_jacks v_soft v_pairs v_bytes v_position v_tokenAt v_token v_digits v_number v_faultAt v_readMany v_readStoreys v_readPairs v_rows v_sights) sz)) 0 0 (va_A (w_X5_burn E a_t a_storey a_wind a_pair a_text a_read a_now a_image a_isKept a_row a_sight a_ways a_ends a_tried v_storeys v_jacks v_soft v_pairs v_bytes v_position v_tokenAt v_token v_digits v_number v_faultAt v_readMany v_readStoreys v_readPairs v_rows v_sights) sz) :=
  mx_metWi (by decide) rfl rfl (fun hB hP hD hA hRet ls hl => b_X5_burn E a_t a_storey a_wind a_pair a_text a_read a_now a_image a_isKept a_row a_sight a_ways a_ends a_tried v_storeys v_jacks v_soft v_pairs v_bytes v_position v_tokenAt v_token v_digits v_number v_faultAt v_readMany v_readStoreys v_readPairs v_rows v_sights  post hB hP hD hA hRet hf ls hl)
def rm_X5_judge : Room := { frames := 3, cells := 0, slots := 0, locals := 70 }
set_option maxHeartbeats 4000000 in
set_option maxRecDepth 100000 in
theorem b_X5_judge {p : Program} {l : Launch} {e : Env} {s : State} {m : MethodId} {args : Array Value} {below : List Frame} {meth : Method} {c : Code} {Q : State → Prop} (E : mx_E) (a_t : Nat) (a_storey : Nat) (a_wind : Nat) (a_pair : Nat) (a_text : Nat) (a_read : Nat) (a_now : Nat) (a_image : Nat) (a_isKept : Nat) (a_row : Nat) (a_sight : Nat) (a_ways : Nat) (a_ends : Nat) (a_tried : Nat) (v_storeys : Int32) (v_jacks : Int32) (v_soft : Int32) (v_pairs : Int32) (v_bytes : Int32) (v_position : Int32) (v_tokenAt : Int32) (v_token : Int64) (v_digits : Int32) (v_number : Int32) (v_faultAt : Int32) (v_readMany : Int32) (v_readStoreys : Int32) (v_readPairs : Int32) (v_rows : Int32) (v_sights : Int32) (v_row : (Nat → Int32)) (v_storey : (Nat → Int32)) (v_pair : (Nat → Int32)) (v_wind : (Nat → Int32)) (x1 : Int32) (post : Int32 → Prop) (hB : mx_B p m c cX5_judge 5 s args RX5 E) (hP : va_P E.1 vwCl (w_X5_judge E a_t a_storey a_wind a_pair a_text a_read a_now a_image a_isKept a_row a_sight a_ways a_ends a_tried v_storeys v_jacks v_soft v_pairs v_bytes v_position v_tokenAt v_token v_digits v_number v_faultAt v_readMany v_readStoreys v_readPairs v_rows v_sights v_row v_storey v_pair v_wind) s.heap) (hRet : ∀ (v : Int32) (pc : Nat) (ls : Array Slot), decode cX5_judge pc = .ok (.ireturn, 1) → post v → W p l e rm_X5_judge s m args below meth c s.heap [] 0 0 Q (F0 m pc ls [.int v])) (hf : f_X5_judge v_rows v_row v_jacks v_storeys v_storey v_pairs v_pair v_wind x1 post) (ls : Array Slot) (hl : lv_has ls 5 [(0, .ref a_t), (1, .int x1)]) : W p l e rm_X5_judge s m args below meth c s.heap [] 0 0 Q (F0 m 0 ls []) := by
  have hx := hB.x
  have hb := hB.b
  have J_97 : ∀ (j97_x1 : Int32) (ls : Array Slot), f_X5_judge_97 v_rows v_row v_jacks v_storeys v_storey v_pairs v_pair v_wind post j97_x1 → lv_has ls 5 [(1, .int j97_x1)] → W p l e rm_X5_judge s m args below meth c s.heap [] 0 0 Q (F0 m 97 ls []) := by
    intro j97_x1 ls hf hl
    refine lv_iload_n hx hb dX5_judge_97 rfl (lv_at hl 0 rfl) ?_
    refine lv_if_ne (tgt := 105) hx hb dX5_judge_98 (by decide) (fun c98 => ?_) (fun c98 => ?_)
    · have hf := hf.1 c98
      refine lv_iconst hx hb dX5_judge_105 kc_i_0 ?_
      exact hRet 0 106 ls dX5_judge_106 hf
    · have hf := hf.2 c98
      refine lv_iconst hx hb dX5_judge_101 kc_i_m1 ?_
      refine lv_goto (tgt := 106) hx hb dX5_judge_102 (by decide) ?_
      exact hRet (-1) 106 ls dX5_judge_106 hf
  have J_69 : ∀ (j69_x1 : Int32) (j69_x3 : Int32) (j69_x4 : Int32) (ls : Array Slot), f_X5_judge_69 v_rows v_row v_jacks v_storeys v_storey v_pairs v_pair v_wind post j69_x1 j69_x3 j69_x4 → lv_has ls 5 [(1, .int j69_x1), (3, .int j69_x3), (4, .int j69_x4)] → W p l e rm_X5_judge s m args below meth c s.heap [] 0 0 Q (F0 m 69 ls []) := by
    intro j69_x1 j69_x3 j69_x4 ls hf hl
    refine lv_iload_n hx hb dX5_judge_69 rfl (lv_at hl 0 rfl) ?_
    refine lv_if_ne (tgt := 77) hx hb dX5_judge_70 (by decide) (fun c70 => ?_) (fun c70 => ?_)
    · have hf := hf.1 c70
      refine lv_iload hx hb dX5_judge_77 (lv_at hl 2 rfl) ?_
      exact hRet j69_x4 79 ls dX5_judge_79 hf
    · have hf := hf.2 c70
      refine lv_iload_n hx hb dX5_judge_73 rfl (lv_at hl 1 rfl) ?_
      refine lv_goto (tgt := 79) hx hb dX5_judge_74 (by decide) ?_
      exact hRet j69_x3 79 ls dX5_judge_79 hf
  have L_16 : ∀ (g16_x1 : Int32) (n : Nat) (j16_x2 : Int32) (j16_x3 : Int32) (ls : Array Slot), mx_l2 (f_X5_judge_16 v_rows v_row v_jacks v_storeys v_storey v_pairs v_pair v_wind post g16_x1) n j16_x2 j16_x3 → lv_has ls 5 [(0, .ref a_t), (1, .int g16_x1), (2, .int j16_x2), (3, .int j16_x3)] → W p l e rm_X5_judge s m args below meth c s.heap [] 0 0 Q (F0 m 16 ls []) := by
    intro g16_x1 n_16
    induction n_16 with
    | zero =>
      intro j16_x2 j16_x3 ls hf hl
      exact False.elim hf
    | succ n_16 ih_16 =>
      have J_62 : ∀ (j62_x2 : Int32) (j62_x3 : Int32) (j62_k0 : Int32) (ls : Array Slot), f_X5_judge_62 v_rows v_row v_jacks v_storeys v_storey v_pairs v_pair v_wind (mx_l2 (f_X5_judge_16 v_rows v_row v_jacks v_storeys v_storey v_pairs v_pair v_wind post g16_x1) n_16) post g16_x1 j62_x2 j62_x3 j62_k0 → lv_has ls 5 [(0, .ref a_t), (1, .int g16_x1), (2, .int j62_x2), (3, .int j62_x3)] → W p l e rm_X5_judge s m args below meth c s.heap [] 0 0 Q (F0 m 62 ls [.int j62_k0]) := by
        intro j62_x2 j62_x3 j62_k0 ls hf hl
        refine lv_istore (lv' := [(4, .int j62_k0), (0, .ref a_t), (1, .int g16_x1), (2, .int j62_x2), (3, .int j62_x3)]) hx hb dX5_judge_62 hl (by decide) rfl (fun ls hl => ?_)
        refine lv_iload hx hb dX5_judge_64 (lv_at hl 0 rfl) ?_
        refine lv_if_eq (tgt := 80) hx hb dX5_judge_66 (by decide) (fun c66 => ?_) (fun c66 => ?_)
        · have hf := hf.1 c66
          refine lv_iload_n hx hb dX5_judge_80 rfl (lv_at hl 3 rfl) ?_
          refine lv_iconst hx hb dX5_judge_81 kc_i_1 ?_
          refine lv_aload_n hx hb dX5_judge_82 rfl (lv_at hl 1 rfl) ?_
          refine gf_X5_42 hB hP 0 rfl rfl dX5_judge_83 ?_
          refine lv_iload_n hx hb dX5_judge_86 rfl (lv_at hl 4 rfl) ?_
          obtain ⟨h_in, hf⟩ := hf
          refine va_iald hx hb hB.K hP 1 0 rfl rfl h_in dX5_judge_87 ?_
          refine lv_ishl hx hb dX5_judge_88 ?_
          refine lv_ior hx hb dX5_judge_89 ?_
          refine lv_istore_n (lv' := [(2, .int (j62_x2 ||| (1 <<< ((v_row j62_x3.toNatClampNeg) &&& 31)))), (4, .int j62_k0), (0, .ref a_t), (1, .int g16_x1), (3, .int j62_x3)]) hx hb dX5_judge_90 rfl hl (by decide) rfl (fun ls hl => ?_)
          refine lv_iinc (v := j62_x3 + 1) (lv' := [(3, .int (j62_x3 + 1)), (2, .int (j62_x2 ||| (1 <<< ((v_row j62_x3.toNatClampNeg) &&& 31)))), (4, .int j62_k0), (0, .ref a_t), (1, .int g16_x1)]) hx hb dX5_judge_91 hl (k := 4) rfl (by rw [kc_i_1]) (by decide) rfl (fun ls hl => ?_)
          refine lv_goto (tgt := 16) hx hb dX5_judge_94 (by decide) ?_
          exact ih_16 (j62_x2 ||| (1 <<< ((v_row j62_x3.toNatClampNeg) &&& 31))) (j62_x3 + 1) ls hf (lv_sub hl [3, 4, 1, 0] rfl)
        · have hf := hf.2 c66
          exact J_69 g16_x1 j62_x3 j62_k0 ls hf (lv_sub hl [2, 4, 0] rfl)
      have J_60 : ∀ (j60_x2 : Int32) (j60_x3 : Int32) (j60_x4 : Int32) (ls : Array Slot), f_X5_judge_60 v_rows v_row v_jacks v_storeys v_storey v_pairs v_pair v_wind (mx_l2 (f_X5_judge_16 v_rows v_row v_jacks v_storeys v_storey v_pairs v_pair v_wind post g16_x1) n_16) post g16_x1 j60_x2 j60_x3 j60_x4 → lv_has ls 5 [(0, .ref a_t), (1, .int g16_x1), (2, .int j60_x2), (3, .int j60_x3), (4, .int j60_x4)] → W p l e rm_X5_judge s m args below meth c s.heap [] 0 0 Q (F0 m 60 ls []) := by
        intro j60_x2 j60_x3 j60_x4 ls hf hl
        refine lv_iload hx hb dX5_judge_60 (lv_at hl 4 rfl) ?_
        exact J_62 j60_x2 j60_x3 j60_x4 ls hf (lv_sub hl [0, 1, 2, 3] rfl)
      intro j16_x2 j16_x3 ls hf hl
      replace hf : f_X5_judge_16 v_rows v_row v_jacks v_storeys v_storey v_pairs v_pair v_wind post g16_x1 (mx_l2 (f_X5_judge_16 v_rows v_row v_jacks v_storeys v_storey v_pairs v_pair v_wind post g16_x1) n_16) j16_x2 j16_x3 := hf
      refine lv_iload_n hx hb dX5_judge_16 rfl (lv_at hl 3 rfl) ?_
      refine lv_aload_n hx hb dX5_judge_17 rfl (lv_at hl 0 rfl) ?_
      refine gf_X5_166 hB hP 0 rfl rfl dX5_judge_18 ?_
      refine lv_icmp_ge (tgt := 97) hx hb dX5_judge_21 (by decide) (fun c21 => ?_) (fun c21 => ?_)
      · have hf := hf.1 c21
        exact J_97 g16_x1 ls hf (lv_sub hl [1] rfl)
      · have hf := hf.2 c21
        refine lv_aload_n hx hb dX5_judge_24 rfl (lv_at hl 0 rfl) ?_
        refine lv_aload_n hx hb dX5_judge_25 rfl (lv_at hl 0 rfl) ?_
        refine gf_X5_42 hB hP 0 rfl rfl dX5_judge_26 ?_
        refine lv_iload_n hx hb dX5_judge_29 rfl (lv_at hl 3 rfl) ?_
        obtain ⟨h_in, hf⟩ := hf
        refine va_iald hx hb hB.K hP 1 0 rfl rfl h_in dX5_judge_30 ?_
        refine lv_iload_n hx hb dX5_judge_31 rfl (lv_at hl 2 rfl) ?_
        refine lv_aload_n hx hb dX5_judge_32 rfl (lv_at hl 0 rfl) ?_
        refine gf_X5_13 hB hP 0 rfl rfl dX5_judge_33 ?_
        refine mx_gi (mx_runV (As := [.int (v_row j16_x3.toNatClampNeg), .int j16_x2, .int v_jacks]) (rest := []) hB (c_X5_whyBy l E a_t a_storey a_wind a_pair a_text a_read a_now a_image a_isKept a_row a_sight a_ways a_ends a_tried v_storeys v_jacks v_soft v_pairs v_bytes v_position v_tokenAt v_token v_digits v_number v_faultAt v_readMany v_readStoreys v_readPairs v_rows v_sights v_storey v_pair (v_row j16_x3.toNatClampNeg) j16_x2 v_jacks _ hf) sB_X5_whyBy sV_X5_whyBy wml_X5_196 rfl (mx_ppV hB hP [0, 2, 3] rfl 5 rfl rfl rfl) hl.1 rfl (Nat.le_of_ble_eq_true rfl) dX5_judge_36 ⟨Nat.zero_le _, Nat.zero_le _⟩) (fun r1 hf => ?_)
        refine lv_istore (lv' := [(4, .int r1), (0, .ref a_t), (1, .int g16_x1), (2, .int j16_x2), (3, .int j16_x3)]) hx hb dX5_judge_39 hl (by decide) rfl (fun ls hl => ?_)
        refine lv_iload hx hb dX5_judge_41 (lv_at hl 0 rfl) ?_
        refine lv_if_ne (tgt := 60) hx hb dX5_judge_43 (by decide) (fun c43 => ?_) (fun c43 => ?_)
        · have hf := hf.1 c43
          exact J_60 j16_x2 j16_x3 r1 ls hf (lv_sub hl [1, 2, 3, 4, 0] rfl)
        · have hf := hf.2 c43
          refine lv_aload_n hx hb dX5_judge_46 rfl (lv_at hl 1 rfl) ?_
          refine lv_iload_n hx hb dX5_judge_47 rfl (lv_at hl 4 rfl) ?_
          refine mx_gi (mx_runV (As := [.int j16_x3]) (rest := []) hB (c_X5_windOf l E a_t a_storey a_wind a_pair a_text a_read a_now a_image a_isKept a_row a_sight a_ways a_ends a_tried v_storeys v_jacks v_soft v_pairs v_bytes v_position v_tokenAt v_token v_digits v_number v_faultAt v_readMany v_readStoreys v_readPairs v_rows v_sights v_wind j16_x3 _ hf) sB_X5_windOf sV_X5_windOf wml_X5_200 rfl (mx_ppV hB hP [0, 4] rfl 5 rfl rfl rfl) hl.1 rfl (Nat.le_of_ble_eq_true rfl) dX5_judge_48 ⟨Nat.zero_le _, Nat.zero_le _⟩) (fun r2 hf => ?_)
          refine lv_bipush hx hb dX5_judge_51 kc_b_9 ?_
          refine lv_icmp_ne (tgt := 60) hx hb dX5_judge_53 (by decide) (fun c53 => ?_) (fun c53 => ?_)
          · have hf := hf.1 c53
            exact J_60 j16_x2 j16_x3 r1 ls hf (lv_sub hl [1, 2, 3, 4, 0] rfl)
          · have hf := hf.2 c53
            refine lv_iconst hx hb dX5_judge_56 kc_i_5 ?_
            refine lv_goto (tgt := 62) hx hb dX5_judge_57 (by decide) ?_
            exact J_62 j16_x2 j16_x3 5 ls hf (lv_sub hl [1, 2, 3, 4] rfl)
  refine lv_iload_n hx hb dX5_judge_0 rfl (lv_at hl 1 rfl) ?_
  refine lv_iconst hx hb dX5_judge_1 kc_i_0 ?_
  refine lv_iconst hx hb dX5_judge_2 kc_i_1 ?_
  refine mx_gi (mx_runS (As := [.int x1, .int 0, .int 1]) (rest := []) hB (c_X5_in1 l E x1 0 1 _ hf) sB_X5_in1 wst_X5_in1 wml_X5_60 rfl (mx_pp hB hP [] rfl) hl.1 rfl (Nat.le_of_ble_eq_true rfl) dX5_judge_3 ⟨Nat.zero_le _, Nat.zero_le _⟩) (fun r1 hf => ?_)
  refine lv_if_ne (tgt := 12) hx hb dX5_judge_6 (by decide) (fun c6 => ?_) (fun c6 => ?_)
  · have hf := hf.1 c6
    refine lv_iconst hx hb dX5_judge_12 kc_i_0 ?_
    refine lv_istore_n (lv' := [(2, .int 0), (0, .ref a_t), (1, .int x1)]) hx hb dX5_judge_13 rfl hl (by decide) rfl (fun ls hl => ?_)
    refine lv_iconst hx hb dX5_judge_14 kc_i_0 ?_
    refine lv_istore_n (lv' := [(3, .int 0), (2, .int 0), (0, .ref a_t), (1, .int x1)]) hx hb dX5_judge_15 rfl hl (by decide) rfl (fun ls hl => ?_)
    obtain ⟨n9, hf⟩ := hf
    exact L_16 x1 n9 0 0 ls hf (lv_sub hl [2, 3, 1, 0] rfl)
  · have hf := hf.2 c6
    refine lv_bipush hx hb dX5_judge_9 kc_b_m3 ?_
    exact hRet (-3) 11 ls dX5_judge_11 hf
theorem c_X5_judge (l : Launch) (E : mx_E) (a_t : Nat) (a_storey : Nat) (a_wind : Nat) (a_pair : Nat) (a_text : Nat) (a_read : Nat) (a_now : Nat) (a_image : Nat) (a_isKept : Nat) (a_row : Nat) (a_sight : Nat) (a_ways : Nat) (a_ends : Nat) (a_tried : Nat) (v_storeys : Int32) (v_jacks : Int32) (v_soft : Int32) (v_pairs : Int32) (v_bytes : Int32) (v_position : Int32) (v_tokenAt : Int32) (v_token : Int64) (v_digits : Int32) (v_number : Int32) (v_faultAt : Int32) (v_readMany : Int32) (v_readStoreys : Int32) (v_readPairs : Int32) (v_rows : Int32) (v_sights : Int32) (v_row : (Nat → Int32)) (v_storey : (Nat → Int32)) (v_pair : (Nat → Int32)) (v_wind : (Nat → Int32)) (x1 : Int32) (post : Int32 → Prop) (hf : f_X5_judge v_rows v_row v_jacks v_storeys v_storey v_pairs v_pair v_wind x1 post) : Met l yX5_judge (Cond.code yX5_judge cX5_judge 5 (some .int) :: mx_WS) rm_X5_judge (va_Pc [.ref a_t, .int x1] (mx_Pp E (w_X5_judge E a_t a_storey a_wind a_pair a_text a_read a_now a_image a_isKept a_row a_sight a_ways a_ends a_tried v_storeys v_jacks v_soft v_pairs v_bytes v_position v_tokenAt v_token v_digits v_number v_faultAt v_readMany v_readStoreys v_readPairs v_rows v_sights v_row v_storey v_pair v_wind))) (vp_Si post) 0 0 (fun _ => False) :=
  mx_metPi (by decide) rfl rfl (fun hB hP hRet ls hl => b_X5_judge E a_t a_storey a_wind a_pair a_text a_read a_now a_image a_isKept a_row a_sight a_ways a_ends a_tried v_storeys v_jacks v_soft v_pairs v_bytes v_position v_tokenAt v_token v_digits v_number v_faultAt v_readMany v_readStoreys v_readPairs v_rows v_sights v_row v_storey v_pair v_wind x1 post hB hP hRet hf ls hl)
def rm_X5_seen : Room := { frames := 1, cells := 0, slots := 0, locals := 22 }
set_option maxHeartbeats 4000000 in
set_option maxRecDepth 100000 in
theorem b_X5_seen {p : Program} {l : Launch} {e : Env} {s : State} {m : MethodId} {args : Array Value} {below : List Frame} {meth : Method} {c : Code} {Q : State → Prop} {A : Nat → Prop} (E : mx_E) (a_t : Nat) (a_storey : Nat) (a_wind : Nat) (a_pair : Nat) (a_text : Nat) (a_read : Nat) (a_now : Nat) (a_image : Nat) (a_isKept : Nat) (a_row : Nat) (a_sight : Nat) (a_ways : Nat) (a_ends : Nat) (a_tried : Nat) (v_storeys : Int32) (v_jacks : Int32) (v_soft : Int32) (v_pairs : Int32) (v_bytes : Int32) (v_position : Int32) (v_tokenAt : Int32) (v_token : Int64) (v_digits : Int32) (v_number : Int32) (v_faultAt : Int32) (v_readMany : Int32) (v_readStoreys : Int32) (v_readPairs : Int32) (v_rows : Int32) (v_sights : Int32) (v_now : (Nat → Int32)) (v_sight : (Nat → Int32)) (x1 : Int32) (x2 : Int32) (post : Int32 → (Nat → Int32) → Int32 → Prop) (hB : mx_B p m c cX5_seen 3 s args RX5 E) (hP : va_P E.1 vwCl (w_X5_seen E a_t a_storey a_wind a_pair a_text a_read a_now a_image a_isKept a_row a_sight a_ways a_ends a_tried v_storeys v_jacks v_soft v_pairs v_bytes v_position v_tokenAt v_token v_digits v_number v_faultAt v_readMany v_readStoreys v_readPairs v_rows v_sights v_now v_sight) s.heap) (hD : va_D A (w_X5_seen E a_t a_storey a_wind a_pair a_text a_read a_now a_image a_isKept a_row a_sight a_ways a_ends a_tried v_storeys v_jacks v_soft v_pairs v_bytes v_position v_tokenAt v_token v_digits v_number v_faultAt v_readMany v_readStoreys v_readPairs v_rows v_sights v_now v_sight)) (hA : ∀ q : Nat, s.heap.size ≤ q → A q) (hRet : ∀ (v : Int32) (u : (Nat → Int32) × Int32) (pc : Nat) (ls : Array Slot) (H : Heap) (locs : List Loc), decode cX5_seen pc = .ok (.ireturn, 1) → post v u.1 u.2 → va_P E.1 vwCl (w_X5_seen E a_t a_storey a_wind a_pair a_text a_read a_now a_image a_isKept a_row a_sight a_ways a_ends a_tried v_storeys v_jacks v_soft v_pairs v_bytes v_position v_tokenAt v_token v_digits v_number v_faultAt v_readMany v_readStoreys v_readPairs v_rows u.2 v_now u.1) H → va_S A s.heap H locs → W p l e rm_X5_seen s m args below meth c H locs 0 0 Q (F0 m pc ls [.int v])) (hf : f_X5_seen v_now v_sight v_sights x1 x2 post) (ls : Array Slot) (hl : lv_has ls 3 [(0, .ref a_t), (1, .int x1), (2, .int x2)]) : W p l e rm_X5_seen s m args below meth c s.heap [] 0 0 Q (F0 m 0 ls []) := by
  have hx := hB.x
  have hb := hB.b
  have hS : va_S A s.heap s.heap [] := va_S.rf
  obtain ⟨H, locs, eH, eL⟩ : ∃ (H : Heap) (locs : List Loc), H = s.heap ∧ locs = [] := ⟨_, _, rfl, rfl⟩
  rw [← eH] at hP
  have hS : va_S A s.heap H locs := by rw [eH, eL]; exact hS
  show W p l e rm_X5_seen s m args below meth c s.heap [] 0 0 Q (F0 m 0 ls [])
  rw [← eH, ← eL]
  refine lv_iload_n hx hb dX5_seen_0 rfl (lv_at hl 1 rfl) ?_
  refine lv_iconst hx hb dX5_seen_1 kc_i_0 ?_
  refine lv_aload_n hx hb dX5_seen_2 rfl (lv_at hl 0 rfl) ?_
  refine gf_X5_32 hB hP 0 rfl rfl dX5_seen_3 ?_
  refine lv_iconst hx hb dX5_seen_6 kc_i_0 ?_
  obtain ⟨h_in, hf⟩ := hf
  refine va_iald hx hb hB.K hP 1 0 rfl rfl h_in dX5_seen_7 ?_
  refine lv_iconst hx hb dX5_seen_8 kc_i_1 ?_
  refine lv_isub hx hb dX5_seen_9 ?_
  refine mx_gi (mx_runS (As := [.int x1, .int 0, .int ((v_now (0 : Int32).toNatClampNeg) - 1)]) (rest := []) hB (c_X5_in1 l E x1 0 ((v_now (0 : Int32).toNatClampNeg) - 1) _ hf) sB_X5_in1 wst_X5_in1 wml_X5_60 rfl (mx_pp hB hP [] rfl) hl.1 rfl (Nat.le_of_ble_eq_true rfl) dX5_seen_10 ⟨Nat.zero_le _, Nat.zero_le _⟩) (fun r1 hf => ?_)
  refine lv_if_eq (tgt := 27) hx hb dX5_seen_13 (by decide) (fun c13 => ?_) (fun c13 => ?_)
  · have hf := hf.1 c13
    refine lv_bipush hx hb dX5_seen_27 kc_b_m3 ?_
    exact hRet (-3) (v_sight, v_sights) 29 ls H locs dX5_seen_29 hf hP hS
  · have hf := hf.2 c13
    refine lv_iload_n hx hb dX5_seen_16 rfl (lv_at hl 2 rfl) ?_
    refine lv_iconst hx hb dX5_seen_17 kc_i_0 ?_
    refine lv_sipush hx hb dX5_seen_18 kc_s_999 ?_
    refine mx_gi (mx_runS (As := [.int x2, .int 0, .int 999]) (rest := []) hB (c_X5_in1 l E x2 0 999 _ hf) sB_X5_in1 wst_X5_in1 wml_X5_60 rfl (mx_pp hB hP [] rfl) hl.1 rfl (Nat.le_of_ble_eq_true rfl) dX5_seen_21 ⟨Nat.zero_le _, Nat.zero_le _⟩) (fun r2 hf => ?_)
    refine lv_if_ne (tgt := 30) hx hb dX5_seen_24 (by decide) (fun c24 => ?_) (fun c24 => ?_)
    · have hf := hf.1 c24
      refine lv_aload_n hx hb dX5_seen_30 rfl (lv_at hl 0 rfl) ?_
      refine gf_X5_169 hB hP 0 rfl rfl dX5_seen_31 ?_
      refine lv_bipush hx hb dX5_seen_34 kc_b_8 ?_
      refine lv_icmp_ne (tgt := 42) hx hb dX5_seen_36 (by decide) (fun c36 => ?_) (fun c36 => ?_)
      · have hf := hf.1 c36
        refine lv_aload_n hx hb dX5_seen_42 rfl (lv_at hl 0 rfl) ?_
        refine gf_X5_45 hB hP 0 rfl rfl dX5_seen_43 ?_
        refine lv_iconst hx hb dX5_seen_46 kc_i_2 ?_
        refine lv_aload_n hx hb dX5_seen_47 rfl (lv_at hl 0 rfl) ?_
        refine gf_X5_169 hB hP 0 rfl rfl dX5_seen_48 ?_
        refine lv_imul hx hb dX5_seen_51 ?_
        refine lv_iload_n hx hb dX5_seen_52 rfl (lv_at hl 1 rfl) ?_
        obtain ⟨h_in, hf⟩ := hf
        refine va_iast hx hb hB.K hP hD hS 2 0 rfl rfl h_in dX5_seen_53 (fun H locs hP hD hS => ?_)
        have hP : va_P E.1 vwCl (w_X5_seen E a_t a_storey a_wind a_pair a_text a_read a_now a_image a_isKept a_row a_sight a_ways a_ends a_tried v_storeys v_jacks v_soft v_pairs v_bytes v_position v_tokenAt v_token v_digits v_number v_faultAt v_readMany v_readStoreys v_readPairs v_rows v_sights v_now (upd v_sight (2 * v_sights).toNatClampNeg x1)) H := hP
        have hD : va_D A (w_X5_seen E a_t a_storey a_wind a_pair a_text a_read a_now a_image a_isKept a_row a_sight a_ways a_ends a_tried v_storeys v_jacks v_soft v_pairs v_bytes v_position v_tokenAt v_token v_digits v_number v_faultAt v_readMany v_readStoreys v_readPairs v_rows v_sights v_now (upd v_sight (2 * v_sights).toNatClampNeg x1)) := hD
        refine lv_aload_n hx hb dX5_seen_54 rfl (lv_at hl 0 rfl) ?_
        refine gf_X5_45 hB hP 0 rfl rfl dX5_seen_55 ?_
        refine lv_iconst hx hb dX5_seen_58 kc_i_2 ?_
        refine lv_aload_n hx hb dX5_seen_59 rfl (lv_at hl 0 rfl) ?_
        refine gf_X5_169 hB hP 0 rfl rfl dX5_seen_60 ?_
        refine lv_imul hx hb dX5_seen_63 ?_
        refine lv_iconst hx hb dX5_seen_64 kc_i_1 ?_
        refine lv_iadd hx hb dX5_seen_65 ?_
        refine lv_iload_n hx hb dX5_seen_66 rfl (lv_at hl 2 rfl) ?_
        obtain ⟨h_in, hf⟩ := hf
        refine va_iast hx hb hB.K hP hD hS 2 0 rfl rfl h_in dX5_seen_67 (fun H locs hP hD hS => ?_)
        have hP : va_P E.1 vwCl (w_X5_seen E a_t a_storey a_wind a_pair a_text a_read a_now a_image a_isKept a_row a_sight a_ways a_ends a_tried v_storeys v_jacks v_soft v_pairs v_bytes v_position v_tokenAt v_token v_digits v_number v_faultAt v_readMany v_readStoreys v_readPairs v_rows v_sights v_now (upd (upd v_sight (2 * v_sights).toNatClampNeg x1) ((2 * v_sights) + 1).toNatClampNeg x2)) H := hP
        have hD : va_D A (w_X5_seen E a_t a_storey a_wind a_pair a_text a_read a_now a_image a_isKept a_row a_sight a_ways a_ends a_tried v_storeys v_jacks v_soft v_pairs v_bytes v_position v_tokenAt v_token v_digits v_number v_faultAt v_readMany v_readStoreys v_readPairs v_rows v_sights v_now (upd (upd v_sight (2 * v_sights).toNatClampNeg x1) ((2 * v_sights) + 1).toNatClampNeg x2)) := hD
        refine lv_aload_n hx hb dX5_seen_68 rfl (lv_at hl 0 rfl) ?_
        refine lv_dup hx hb dX5_seen_69 rfl ?_
        refine gf_X5_169 hB hP 0 rfl rfl dX5_seen_70 ?_
        refine lv_iconst hx hb dX5_seen_73 kc_i_1 ?_
        refine lv_iadd hx hb dX5_seen_74 ?_
        refine pf_X5_169 hB hP hD hS 0 rfl (Nat.le_of_ble_eq_true rfl) dX5_seen_75 (w_X5_seen E a_t a_storey a_wind a_pair a_text a_read a_now a_image a_isKept a_row a_sight a_ways a_ends a_tried v_storeys v_jacks v_soft v_pairs v_bytes v_position v_tokenAt v_token v_digits v_number v_faultAt v_readMany v_readStoreys v_readPairs v_rows (v_sights + 1) v_now (upd (upd v_sight (2 * v_sights).toNatClampNeg x1) ((2 * v_sights) + 1).toNatClampNeg x2)) rfl (fun H locs hP hD hS => ?_)
        refine lv_aload_n hx hb dX5_seen_78 rfl (lv_at hl 0 rfl) ?_
        refine gf_X5_169 hB hP 0 rfl rfl dX5_seen_79 ?_
        exact hRet (v_sights + 1) (upd (upd v_sight (2 * v_sights).toNatClampNeg x1) ((2 * v_sights) + 1).toNatClampNeg x2, v_sights + 1) 82 ls H locs dX5_seen_82 hf hP hS
      · have hf := hf.2 c36
        refine lv_bipush hx hb dX5_seen_39 kc_b_m5 ?_
        exact hRet (-5) (v_sight, v_sights) 41 ls H locs dX5_seen_41 hf hP hS
    · have hf := hf.2 c24
      refine lv_bipush hx hb dX5_seen_27 kc_b_m3 ?_
      exact hRet (-3) (v_sight, v_sights) 29 ls H locs dX5_seen_29 hf hP hS
theorem c_X5_seen (l : Launch) (E : mx_E) (a_t : Nat) (a_storey : Nat) (a_wind : Nat) (a_pair : Nat) (a_text : Nat) (a_read : Nat) (a_now : Nat) (a_image : Nat) (a_isKept : Nat) (a_row : Nat) (a_sight : Nat) (a_ways : Nat) (a_ends : Nat) (a_tried : Nat) (v_storeys : Int32) (v_jacks : Int32) (v_soft : Int32) (v_pairs : Int32) (v_bytes : Int32) (v_position : Int32) (v_tokenAt : Int32) (v_token : Int64) (v_digits : Int32) (v_number : Int32) (v_faultAt : Int32) (v_readMany : Int32) (v_readStoreys : Int32) (v_readPairs : Int32) (v_rows : Int32) (v_sights : Int32) (v_now : (Nat → Int32)) (v_sight : (Nat → Int32)) (sz : Nat) (x1 : Int32) (x2 : Int32) (post : Int32 → (Nat → Int32) → Int32 → Prop) (hf : f_X5_seen v_now v_sight v_sights x1 x2 post) : Met l yX5_seen (Cond.code yX5_seen cX5_seen 3 (some .int) :: mx_WS) rm_X5_seen (va_Pc [.ref a_t, .int x1, .int x2] (mx_Pw E (w_X5_seen E a_t a_storey a_wind a_pair a_text a_read a_now a_image a_isKept a_row a_sight a_ways a_ends a_tried v_storeys v_jacks v_soft v_pairs v_bytes v_position v_tokenAt v_token v_digits v_number v_faultAt v_readMany v_readStoreys v_readPairs v_rows v_sights v_now v_sight) sz)) (va_Qi (fun (v : Int32) (u : (Nat → Int32) × Int32) => post v u.1 u.2) (fun u t => va_P E.1 vwCl (w_X5_seen E a_t a_storey a_wind a_pair a_text a_read a_now a_image a_isKept a_row a_sight a_ways a_ends a_tried v_storeys v_jacks v_soft v_pairs v_bytes v_position v_tokenAt v_token v_digits v_number v_faultAt v_readMany v_readStoreys v_readPairs v_rows u.2 v_now u.1) t.heap) (va_A (w_X5_seen E a_t a_storey a_wind a_pair a_text a_read a_now a_image a_isKept a_row a_sight a_ways a_ends a_tried v_storeys v_jacks v_soft v_pairs v_bytes v_position v_tokenAt v_token v_digits v_number v_faultAt v_readMany v_readStoreys v_readPairs v_rows v_sights v_now v_sight) sz)) 0 0 (va_A (w_X5_seen E a_t a_storey a_wind a_pair a_text a_read a_now a_image a_isKept a_row a_sight a_ways a_ends a_tried v_storeys v_jacks v_soft v_pairs v_bytes v_position v_tokenAt v_token v_digits v_number v_faultAt v_readMany v_readStoreys v_readPairs v_rows v_sights v_now v_sight) sz) :=
  mx_metWi (by decide) rfl rfl (fun hB hP hD hA hRet ls hl => b_X5_seen E a_t a_storey a_wind a_pair a_text a_read a_now a_image a_isKept a_row a_sight a_ways a_ends a_tried v_storeys v_jacks v_soft v_pairs v_bytes v_position v_tokenAt v_token v_digits v_number v_faultAt v_readMany v_readStoreys v_readPairs v_rows v_sights v_now v_sight x1 x2 post hB hP hD hA hRet hf ls hl)
def rm_X5_forget : Room := { frames := 0, cells := 0, slots := 0, locals := 0 }
set_option maxHeartbeats 4000000 in
set_option maxRecDepth 100000 in
theorem b_X5_forget {p : Program} {l : Launch} {e : Env} {s : State} {m : MethodId} {args : Array Value} {below : List Frame} {meth : Method} {c : Code} {Q : State → Prop} {A : Nat → Prop} (E : mx_E) (a_t : Nat) (a_storey : Nat) (a_wind : Nat) (a_pair : Nat) (a_text : Nat) (a_read : Nat) (a_now : Nat) (a_image : Nat) (a_isKept : Nat) (a_row : Nat) (a_sight : Nat) (a_ways : Nat) (a_ends : Nat) (a_tried : Nat) (v_storeys : Int32) (v_jacks : Int32) (v_soft : Int32) (v_pairs : Int32) (v_bytes : Int32) (v_position : Int32) (v_tokenAt : Int32) (v_token : Int64) (v_digits : Int32) (v_number : Int32) (v_faultAt : Int32) (v_readMany : Int32) (v_readStoreys : Int32) (v_readPairs : Int32) (v_rows : Int32) (v_sights : Int32)  (post : Int32 → Int32 → Prop) (hB : mx_B p m c cX5_forget 2 s args RX5 E) (hP : va_P E.1 vwCl (w_X5_forget E a_t a_storey a_wind a_pair a_text a_read a_now a_image a_isKept a_row a_sight a_ways a_ends a_tried v_storeys v_jacks v_soft v_pairs v_bytes v_position v_tokenAt v_token v_digits v_number v_faultAt v_readMany v_readStoreys v_readPairs v_rows v_sights) s.heap) (hD : va_D A (w_X5_forget E a_t a_storey a_wind a_pair a_text a_read a_now a_image a_isKept a_row a_sight a_ways a_ends a_tried v_storeys v_jacks v_soft v_pairs v_bytes v_position v_tokenAt v_token v_digits v_number v_faultAt v_readMany v_readStoreys v_readPairs v_rows v_sights)) (hA : ∀ q : Nat, s.heap.size ≤ q → A q) (hRet : ∀ (v : Int32) (u : Int32) (pc : Nat) (ls : Array Slot) (H : Heap) (locs : List Loc), decode cX5_forget pc = .ok (.ireturn, 1) → post v u → va_P E.1 vwCl (w_X5_forget E a_t a_storey a_wind a_pair a_text a_read a_now a_image a_isKept a_row a_sight a_ways a_ends a_tried v_storeys v_jacks v_soft v_pairs v_bytes v_position v_tokenAt v_token v_digits v_number v_faultAt v_readMany v_readStoreys v_readPairs v_rows u) H → va_S A s.heap H locs → W p l e rm_X5_forget s m args below meth c H locs 0 0 Q (F0 m pc ls [.int v])) (hf : f_X5_forget v_sights post) (ls : Array Slot) (hl : lv_has ls 2 [(0, .ref a_t)]) : W p l e rm_X5_forget s m args below meth c s.heap [] 0 0 Q (F0 m 0 ls []) := by
  have hx := hB.x
  have hb := hB.b
  have hS : va_S A s.heap s.heap [] := va_S.rf
  obtain ⟨H, locs, eH, eL⟩ : ∃ (H : Heap) (locs : List Loc), H = s.heap ∧ locs = [] := ⟨_, _, rfl, rfl⟩
  rw [← eH] at hP
  have hS : va_S A s.heap H locs := by rw [eH, eL]; exact hS
  show W p l e rm_X5_forget s m args below meth c s.heap [] 0 0 Q (F0 m 0 ls [])
  rw [← eH, ← eL]
  refine lv_aload_n hx hb dX5_forget_0 rfl (lv_at hl 0 rfl) ?_
  refine gf_X5_169 hB hP 0 rfl rfl dX5_forget_1 ?_
  refine lv_istore_n (lv' := [(1, .int v_sights), (0, .ref a_t)]) hx hb dX5_forget_4 rfl hl (by decide) rfl (fun ls hl => ?_)
  refine lv_aload_n hx hb dX5_forget_5 rfl (lv_at hl 1 rfl) ?_
  refine lv_iconst hx hb dX5_forget_6 kc_i_0 ?_
  refine pf_X5_169 hB hP hD hS 0 rfl (Nat.le_of_ble_eq_true rfl) dX5_forget_7 (w_X5_forget E a_t a_storey a_wind a_pair a_text a_read a_now a_image a_isKept a_row a_sight a_ways a_ends a_tried v_storeys v_jacks v_soft v_pairs v_bytes v_position v_tokenAt v_token v_digits v_number v_faultAt v_readMany v_readStoreys v_readPairs v_rows 0) rfl (fun H locs hP hD hS => ?_)
  refine lv_iload_n hx hb dX5_forget_10 rfl (lv_at hl 0 rfl) ?_
  exact hRet v_sights 0 11 ls H locs dX5_forget_11 hf hP hS
theorem c_X5_forget (l : Launch) (E : mx_E) (a_t : Nat) (a_storey : Nat) (a_wind : Nat) (a_pair : Nat) (a_text : Nat) (a_read : Nat) (a_now : Nat) (a_image : Nat) (a_isKept : Nat) (a_row : Nat) (a_sight : Nat) (a_ways : Nat) (a_ends : Nat) (a_tried : Nat) (v_storeys : Int32) (v_jacks : Int32) (v_soft : Int32) (v_pairs : Int32) (v_bytes : Int32) (v_position : Int32) (v_tokenAt : Int32) (v_token : Int64) (v_digits : Int32) (v_number : Int32) (v_faultAt : Int32) (v_readMany : Int32) (v_readStoreys : Int32) (v_readPairs : Int32) (v_rows : Int32) (v_sights : Int32) (sz : Nat)  (post : Int32 → Int32 → Prop) (hf : f_X5_forget v_sights post) : Met l yX5_forget (Cond.code yX5_forget cX5_forget 2 (some .int) :: mx_WS) rm_X5_forget (va_Pc [.ref a_t] (mx_Pw E (w_X5_forget E a_t a_storey a_wind a_pair a_text a_read a_now a_image a_isKept a_row a_sight a_ways a_ends a_tried v_storeys v_jacks v_soft v_pairs v_bytes v_position v_tokenAt v_token v_digits v_number v_faultAt v_readMany v_readStoreys v_readPairs v_rows v_sights) sz)) (va_Qi (fun (v : Int32) (u : Int32) => post v u) (fun u t => va_P E.1 vwCl (w_X5_forget E a_t a_storey a_wind a_pair a_text a_read a_now a_image a_isKept a_row a_sight a_ways a_ends a_tried v_storeys v_jacks v_soft v_pairs v_bytes v_position v_tokenAt v_token v_digits v_number v_faultAt v_readMany v_readStoreys v_readPairs v_rows u) t.heap) (va_A (w_X5_forget E a_t a_storey a_wind a_pair a_text a_read a_now a_image a_isKept a_row a_sight a_ways a_ends a_tried v_storeys v_jacks v_soft v_pairs v_bytes v_position v_tokenAt v_token v_digits v_number v_faultAt v_readMany v_readStoreys v_readPairs v_rows v_sights) sz)) 0 0 (va_A (w_X5_forget E a_t a_storey a_wind a_pair a_text a_read a_now a_image a_isKept a_row a_sight a_ways a_ends a_tried v_storeys v_jacks v_soft v_pairs v_bytes v_position v_tokenAt v_token v_digits v_number v_faultAt v_readMany v_readStoreys v_readPairs v_rows v_sights) sz) :=
  mx_metWi (by decide) rfl rfl (fun hB hP hD hA hRet ls hl => b_X5_forget E a_t a_storey a_wind a_pair a_text a_read a_now a_image a_isKept a_row a_sight a_ways a_ends a_tried v_storeys v_jacks v_soft v_pairs v_bytes v_position v_tokenAt v_token v_digits v_number v_faultAt v_readMany v_readStoreys v_readPairs v_rows v_sights  post hB hP hD hA hRet hf ls hl)
