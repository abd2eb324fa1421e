def rm_X5_in1 : Room := { frames := 0, cells := 0, slots := 0, locals := 0 }
set_option maxHeartbeats 4000000 in
set_option maxRecDepth 100000 in
theorem b_X5_in1 {p : Program} {l : Launch} {e : Env} {s : State} {m : MethodId} {args : Array Value} {below : List Frame} {meth : Method} {c : Code} {Q : State → Prop} (E : mx_E)   (x0 : Int32) (x1 : Int32) (x2 : Int32) (post : Int32 → Prop) (hB : mx_B p m c cX5_in1 3 s args RX5 E) (hP : va_P E.1 vwCl (w_X5_in1 E ) s.heap) (hRet : ∀ (v : Int32) (pc : Nat) (ls : Array Slot), decode cX5_in1 pc = .ok (.ireturn, 1) → (v = 0 ∨ v = 1) → post v → W p l e rm_X5_in1 s m args below meth c s.heap [] 0 0 Q (F0 m pc ls [.int v])) (hf : f_X5_in1 x0 x1 x2 post) (ls : Array Slot) (hl : lv_has ls 3 [(0, .int x0), (1, .int x1), (2, .int x2)]) : W p l e rm_X5_in1 s m args below meth c s.heap [] 0 0 Q (F0 m 0 ls []) := by
  have hx := hB.x
  have hb := hB.b
  refine lv_iload_n hx hb dX5_in1_0 rfl (lv_at hl 0 rfl) ?_
  refine lv_iload_n hx hb dX5_in1_1 rfl (lv_at hl 1 rfl) ?_
  refine lv_icmp_lt (tgt := 14) hx hb dX5_in1_2 (by decide) (fun c2 => ?_) (fun c2 => ?_)
  · have hf := hf.1 c2
    refine lv_iconst hx hb dX5_in1_14 kc_i_0 ?_
    exact hRet 0 15 ls dX5_in1_15 (Or.inl rfl) hf
  · have hf := hf.2 c2
    refine lv_iload_n hx hb dX5_in1_5 rfl (lv_at hl 0 rfl) ?_
    refine lv_iload_n hx hb dX5_in1_6 rfl (lv_at hl 2 rfl) ?_
    refine lv_icmp_gt (tgt := 14) hx hb dX5_in1_7 (by decide) (fun c7 => ?_) (fun c7 => ?_)
    · have hf := hf.1 c7
      refine lv_iconst hx hb dX5_in1_14 kc_i_0 ?_
      exact hRet 0 15 ls dX5_in1_15 (Or.inl rfl) hf
    · have hf := hf.2 c7
      refine lv_iconst hx hb dX5_in1_10 kc_i_1 ?_
      refine lv_goto (tgt := 15) hx hb dX5_in1_11 (by decide) ?_
      exact hRet 1 15 ls dX5_in1_15 (Or.inr rfl) hf
theorem c_X5_in1 (l : Launch) (E : mx_E)   (x0 : Int32) (x1 : Int32) (x2 : Int32) (post : Int32 → Prop) (hf : f_X5_in1 x0 x1 x2 post) : Met l yX5_in1 (Cond.code yX5_in1 cX5_in1 3 (some .boolean) :: mx_WS) rm_X5_in1 (va_Pc [.int x0, .int x1, .int x2] (mx_Pp E (w_X5_in1 E ))) (vp_Si post) 0 0 (fun _ => False) :=
  mx_metPz (by decide) rfl rfl (fun hB hP hRet ls hl => b_X5_in1 E  x0 x1 x2 post hB hP hRet hf ls hl)
def rm_X5_has : Room := { frames := 0, cells := 0, slots := 0, locals := 0 }
set_option maxHeartbeats 4000000 in
set_option maxRecDepth 100000 in
theorem b_X5_has {p : Program} {l : Launch} {e : Env} {s : State} {m : MethodId} {args : Array Value} {below : List Frame} {meth : Method} {c : Code} {Q : State → Prop} (E : mx_E)   (x0 : Int32) (x1 : Int32) (post : Int32 → Prop) (hB : mx_B p m c cX5_has 2 s args RX5 E) (hP : va_P E.1 vwCl (w_X5_has E ) s.heap) (hRet : ∀ (v : Int32) (pc : Nat) (ls : Array Slot), decode cX5_has pc = .ok (.ireturn, 1) → (v = 0 ∨ v = 1) → post v → W p l e rm_X5_has s m args below meth c s.heap [] 0 0 Q (F0 m pc ls [.int v])) (hf : f_X5_has x0 x1 post) (ls : Array Slot) (hl : lv_has ls 2 [(0, .int x0), (1, .int x1)]) : W p l e rm_X5_has s m args below meth c s.heap [] 0 0 Q (F0 m 0 ls []) := by
  have hx := hB.x
  have hb := hB.b
  refine lv_iload_n hx hb dX5_has_0 rfl (lv_at hl 0 rfl) ?_
  refine lv_iload_n hx hb dX5_has_1 rfl (lv_at hl 1 rfl) ?_
  refine lv_ishr hx hb dX5_has_2 ?_
  refine lv_iconst hx hb dX5_has_3 kc_i_1 ?_
  refine lv_iand hx hb dX5_has_4 ?_
  refine lv_iconst hx hb dX5_has_5 kc_i_1 ?_
  refine lv_icmp_ne (tgt := 13) hx hb dX5_has_6 (by decide) (fun c6 => ?_) (fun c6 => ?_)
  · have hf := hf.1 c6
    refine lv_iconst hx hb dX5_has_13 kc_i_0 ?_
    exact hRet 0 14 ls dX5_has_14 (Or.inl rfl) hf
  · have hf := hf.2 c6
    refine lv_iconst hx hb dX5_has_9 kc_i_1 ?_
    refine lv_goto (tgt := 14) hx hb dX5_has_10 (by decide) ?_
    exact hRet 1 14 ls dX5_has_14 (Or.inr rfl) hf
theorem c_X5_has (l : Launch) (E : mx_E)   (x0 : Int32) (x1 : Int32) (post : Int32 → Prop) (hf : f_X5_has x0 x1 post) : Met l yX5_has (Cond.code yX5_has cX5_has 2 (some .boolean) :: mx_WS) rm_X5_has (va_Pc [.int x0, .int x1] (mx_Pp E (w_X5_has E ))) (vp_Si post) 0 0 (fun _ => False) :=
  mx_metPz (by decide) rfl rfl (fun hB hP hRet ls hl => b_X5_has E  x0 x1 post hB hP hRet hf ls hl)
def rm_X5_isStorey : Room := { frames := 1, cells := 0, slots := 0, locals := 22 }
set_option maxHeartbeats 4000000 in
set_option maxRecDepth 100000 in
theorem b_X5_isStorey {p : Program} {l : Launch} {e : Env} {s : State} {m : MethodId} {args : Array Value} {below : List Frame} {meth : Method} {c : Code} {Q : State → Prop} (E : mx_E) (a_t : Nat) (a_storey : Nat) (a_wind : Nat) (a_pair : Nat) (a_text : Nat) (a_read : Nat) (a_now : Nat) (a_image : Nat) (a_isKept : Nat) (a_row : Nat) (a_sight : Nat) (a_ways : Nat) (a_ends : Nat) (a_tried : Nat) (v_storeys : Int32) (v_jacks : Int32) (v_soft : Int32) (v_pairs : Int32) (v_bytes : Int32) (v_position : Int32) (v_tokenAt : Int32) (v_token : Int64) (v_digits : Int32) (v_number : Int32) (v_faultAt : Int32) (v_readMany : Int32) (v_readStoreys : Int32) (v_readPairs : Int32) (v_rows : Int32) (v_sights : Int32) (x1 : Int32) (post : Int32 → Prop) (hB : mx_B p m c cX5_isStorey 2 s args RX5 E) (hP : va_P E.1 vwCl (w_X5_isStorey E a_t a_storey a_wind a_pair a_text a_read a_now a_image a_isKept a_row a_sight a_ways a_ends a_tried v_storeys v_jacks v_soft v_pairs v_bytes v_position v_tokenAt v_token v_digits v_number v_faultAt v_readMany v_readStoreys v_readPairs v_rows v_sights) s.heap) (hRet : ∀ (v : Int32) (pc : Nat) (ls : Array Slot), decode cX5_isStorey pc = .ok (.ireturn, 1) → (v = 0 ∨ v = 1) → post v → W p l e rm_X5_isStorey s m args below meth c s.heap [] 0 0 Q (F0 m pc ls [.int v])) (hf : f_X5_isStorey v_storeys x1 post) (ls : Array Slot) (hl : lv_has ls 2 [(0, .ref a_t), (1, .int x1)]) : W p l e rm_X5_isStorey s m args below meth c s.heap [] 0 0 Q (F0 m 0 ls []) := by
  have hx := hB.x
  have hb := hB.b
  refine lv_iload_n hx hb dX5_isStorey_0 rfl (lv_at hl 1 rfl) ?_
  refine lv_iconst hx hb dX5_isStorey_1 kc_i_0 ?_
  refine lv_aload_n hx hb dX5_isStorey_2 rfl (lv_at hl 0 rfl) ?_
  refine gf_X5_57 hB hP 0 rfl rfl dX5_isStorey_3 ?_
  refine lv_iconst hx hb dX5_isStorey_6 kc_i_1 ?_
  refine lv_isub hx hb dX5_isStorey_7 ?_
  refine mx_gi (mx_runS (As := [.int x1, .int 0, .int (v_storeys - 1)]) (rest := []) hB (c_X5_in1 l E x1 0 (v_storeys - 1) _ hf) sB_X5_in1 wst_X5_in1 wml_X5_60 rfl (mx_pp hB hP [] rfl) hl.1 rfl (Nat.le_of_ble_eq_true rfl) dX5_isStorey_8 ⟨Nat.zero_le _, Nat.zero_le _⟩) (fun r1 hf => ?_)
  obtain ⟨h01, hf⟩ := hf
  exact hRet r1 11 ls dX5_isStorey_11 h01 hf
theorem c_X5_isStorey (l : Launch) (E : mx_E) (a_t : Nat) (a_storey : Nat) (a_wind : Nat) (a_pair : Nat) (a_text : Nat) (a_read : Nat) (a_now : Nat) (a_image : Nat) (a_isKept : Nat) (a_row : Nat) (a_sight : Nat) (a_ways : Nat) (a_ends : Nat) (a_tried : Nat) (v_storeys : Int32) (v_jacks : Int32) (v_soft : Int32) (v_pairs : Int32) (v_bytes : Int32) (v_position : Int32) (v_tokenAt : Int32) (v_token : Int64) (v_digits : Int32) (v_number : Int32) (v_faultAt : Int32) (v_readMany : Int32) (v_readStoreys : Int32) (v_readPairs : Int32) (v_rows : Int32) (v_sights : Int32) (x1 : Int32) (post : Int32 → Prop) (hf : f_X5_isStorey v_storeys x1 post) : Met l yX5_isStorey (Cond.code yX5_isStorey cX5_isStorey 2 (some .boolean) :: mx_WS) rm_X5_isStorey (va_Pc [.ref a_t, .int x1] (mx_Pp E (w_X5_isStorey E a_t a_storey a_wind a_pair a_text a_read a_now a_image a_isKept a_row a_sight a_ways a_ends a_tried v_storeys v_jacks v_soft v_pairs v_bytes v_position v_tokenAt v_token v_digits v_number v_faultAt v_readMany v_readStoreys v_readPairs v_rows v_sights))) (vp_Si post) 0 0 (fun _ => False) :=
  mx_metPz (by decide) rfl rfl (fun hB hP hRet ls hl => b_X5_isStorey E a_t a_storey a_wind a_pair a_text a_read a_now a_image a_isKept a_row a_sight a_ways a_ends a_tried v_storeys v_jacks v_soft v_pairs v_bytes v_position v_tokenAt v_token v_digits v_number v_faultAt v_readMany v_readStoreys v_readPairs v_rows v_sights x1 post hB hP hRet hf ls hl)
def rm_X5_write : Room := { frames := 1, cells := 0, slots := 0, locals := 22 }
set_option maxHeartbeats 4000000 in
set_option maxRecDepth 100000 in
theorem b_X5_write {p : Program} {l : Launch} {e : Env} {s : State} {m : MethodId} {args : Array Value} {below : List Frame} {meth : Method} {c : Code} {Q : State → Prop} {A : Nat → Prop} (E : mx_E) (a_t : Nat) (a_storey : Nat) (a_wind : Nat) (a_pair : Nat) (a_text : Nat) (a_read : Nat) (a_now : Nat) (a_image : Nat) (a_isKept : Nat) (a_row : Nat) (a_sight : Nat) (a_ways : Nat) (a_ends : Nat) (a_tried : Nat) (v_storeys : Int32) (v_jacks : Int32) (v_soft : Int32) (v_pairs : Int32) (v_bytes : Int32) (v_position : Int32) (v_tokenAt : Int32) (v_token : Int64) (v_digits : Int32) (v_number : Int32) (v_faultAt : Int32) (v_readMany : Int32) (v_readStoreys : Int32) (v_readPairs : Int32) (v_rows : Int32) (v_sights : Int32) (v_text : (Nat → Int32)) (y1 : Int64) (x3 : Int32) (post : Int32 → Int32 → (Nat → Int32) → Prop) (hB : mx_B p m c cX5_write 5 s args RX5 E) (hP : va_P E.1 vwCl (w_X5_write E a_t a_storey a_wind a_pair a_text a_read a_now a_image a_isKept a_row a_sight a_ways a_ends a_tried v_storeys v_jacks v_soft v_pairs v_bytes v_position v_tokenAt v_token v_digits v_number v_faultAt v_readMany v_readStoreys v_readPairs v_rows v_sights v_text) s.heap) (hD : va_D A (w_X5_write E a_t a_storey a_wind a_pair a_text a_read a_now a_image a_isKept a_row a_sight a_ways a_ends a_tried v_storeys v_jacks v_soft v_pairs v_bytes v_position v_tokenAt v_token v_digits v_number v_faultAt v_readMany v_readStoreys v_readPairs v_rows v_sights v_text)) (hA : ∀ q : Nat, s.heap.size ≤ q → A q) (hRet : ∀ (v : Int32) (u : Int32 × (Nat → Int32)) (pc : Nat) (ls : Array Slot) (H : Heap) (locs : List Loc), decode cX5_write pc = .ok (.ireturn, 1) → post v u.1 u.2 → va_P E.1 vwCl (w_X5_write E a_t a_storey a_wind a_pair a_text a_read a_now a_image a_isKept a_row a_sight a_ways a_ends a_tried v_storeys v_jacks v_soft v_pairs u.1 v_position v_tokenAt v_token v_digits v_number v_faultAt v_readMany v_readStoreys v_readPairs v_rows v_sights u.2) H → va_S A s.heap H locs → W p l e rm_X5_write s m args below meth c H locs 0 0 Q (F0 m pc ls [.int v])) (hf : f_X5_write v_bytes v_text y1 x3 post) (ls : Array Slot) (hl : lv_has ls 5 [(0, .ref a_t), (1, .long y1), (3, .int x3)]) : W p l e rm_X5_write s m args below meth c s.heap [] 0 0 Q (F0 m 0 ls []) := by
  have hx := hB.x
  have hb := hB.b
  have hS : va_S A s.heap s.heap [] := va_S.rf
  have J_67 : ∀ (j67_x3 : Int32) (j67_v_bytes : Int32) (j67_v_text : (Nat → Int32)) (ls : Array Slot) (H : Heap) (locs : List Loc), f_X5_write_67 post j67_x3 j67_v_bytes j67_v_text → lv_has ls 5 [(0, .ref a_t), (3, .int j67_x3)] → va_P E.1 vwCl (w_X5_write E a_t a_storey a_wind a_pair a_text a_read a_now a_image a_isKept a_row a_sight a_ways a_ends a_tried v_storeys v_jacks v_soft v_pairs j67_v_bytes v_position v_tokenAt v_token v_digits v_number v_faultAt v_readMany v_readStoreys v_readPairs v_rows v_sights j67_v_text) H → va_D A (w_X5_write E a_t a_storey a_wind a_pair a_text a_read a_now a_image a_isKept a_row a_sight a_ways a_ends a_tried v_storeys v_jacks v_soft v_pairs j67_v_bytes v_position v_tokenAt v_token v_digits v_number v_faultAt v_readMany v_readStoreys v_readPairs v_rows v_sights j67_v_text) → va_S A s.heap H locs → W p l e rm_X5_write s m args below meth c H locs 0 0 Q (F0 m 67 ls []) := by
    intro j67_x3 j67_v_bytes j67_v_text ls H locs hf hl hP hD hS
    refine lv_aload_n hx hb dX5_write_67 rfl (lv_at hl 0 rfl) ?_
    refine lv_dup hx hb dX5_write_68 rfl ?_
    refine gf_X5_64 hB hP 0 rfl rfl dX5_write_69 ?_
    refine lv_iload_n hx hb dX5_write_72 rfl (lv_at hl 1 rfl) ?_
    refine lv_iadd hx hb dX5_write_73 ?_
    refine pf_X5_64 hB hP hD hS 0 rfl (Nat.le_of_ble_eq_true rfl) dX5_write_74 (w_X5_write E a_t a_storey a_wind a_pair a_text a_read a_now a_image a_isKept a_row a_sight a_ways a_ends a_tried v_storeys v_jacks v_soft v_pairs (j67_v_bytes + j67_x3) v_position v_tokenAt v_token v_digits v_number v_faultAt v_readMany v_readStoreys v_readPairs v_rows v_sights j67_v_text) rfl (fun H locs hP hD hS => ?_)
    refine lv_aload_n hx hb dX5_write_77 rfl (lv_at hl 0 rfl) ?_
    refine gf_X5_64 hB hP 0 rfl rfl dX5_write_78 ?_
    exact hRet (j67_v_bytes + j67_x3) (j67_v_bytes + j67_x3, j67_v_text) 81 ls H locs dX5_write_81 hf hP hS
  have L_31 : ∀ (g31_y1 : Int64) (g31_x3 : Int32) (g31_v_bytes : Int32) (n : Nat) (j31_x4 : Int32) (j31_v_text : (Nat → Int32)) (ls : Array Slot) (H : Heap) (locs : List Loc), mx_l2 (f_X5_write_31 post g31_y1 g31_x3 g31_v_bytes) n j31_x4 j31_v_text → lv_has ls 5 [(0, .ref a_t), (1, .long g31_y1), (3, .int g31_x3), (4, .int j31_x4)] → va_P E.1 vwCl (w_X5_write E a_t a_storey a_wind a_pair a_text a_read a_now a_image a_isKept a_row a_sight a_ways a_ends a_tried v_storeys v_jacks v_soft v_pairs g31_v_bytes v_position v_tokenAt v_token v_digits v_number v_faultAt v_readMany v_readStoreys v_readPairs v_rows v_sights j31_v_text) H → va_D A (w_X5_write E a_t a_storey a_wind a_pair a_text a_read a_now a_image a_isKept a_row a_sight a_ways a_ends a_tried v_storeys v_jacks v_soft v_pairs g31_v_bytes v_position v_tokenAt v_token v_digits v_number v_faultAt v_readMany v_readStoreys v_readPairs v_rows v_sights j31_v_text) → va_S A s.heap H locs → W p l e rm_X5_write s m args below meth c H locs 0 0 Q (F0 m 31 ls []) := by
    intro g31_y1 g31_x3 g31_v_bytes n_31
    induction n_31 with
    | zero =>
      intro j31_x4 j31_v_text ls H locs hf hl hP hD hS
      exact False.elim hf
    | succ n_31 ih_31 =>
      intro j31_x4 j31_v_text ls H locs hf hl hP hD hS
      replace hf : f_X5_write_31 post g31_y1 g31_x3 g31_v_bytes (mx_l2 (f_X5_write_31 post g31_y1 g31_x3 g31_v_bytes) n_31) j31_x4 j31_v_text := hf
      refine lv_iload hx hb dX5_write_31 (lv_at hl 3 rfl) ?_
      refine lv_iload_n hx hb dX5_write_33 rfl (lv_at hl 2 rfl) ?_
      refine lv_icmp_ge (tgt := 67) hx hb dX5_write_34 (by decide) (fun c34 => ?_) (fun c34 => ?_)
      · have hf := hf.1 c34
        exact J_67 g31_x3 g31_v_bytes j31_v_text ls H locs hf (lv_sub hl [0, 2] rfl) hP hD hS
      · have hf := hf.2 c34
        refine lv_aload_n hx hb dX5_write_37 rfl (lv_at hl 0 rfl) ?_
        refine gf_X5_26 hB hP 0 rfl rfl dX5_write_38 ?_
        refine lv_aload_n hx hb dX5_write_41 rfl (lv_at hl 0 rfl) ?_
        refine gf_X5_64 hB hP 0 rfl rfl dX5_write_42 ?_
        refine lv_iload hx hb dX5_write_45 (lv_at hl 3 rfl) ?_
        refine lv_iadd hx hb dX5_write_47 ?_
        refine lv_lload_n hx hb dX5_write_48 rfl (lv_at hl 1 rfl) ?_
        refine lv_bipush hx hb dX5_write_49 kc_b_8 ?_
        refine lv_iload hx hb dX5_write_51 (lv_at hl 3 rfl) ?_
        refine lv_imul hx hb dX5_write_53 ?_
        refine lv_lshr hx hb dX5_write_54 rfl ?_
        refine lv_ldc2 hx hb hB.o (hB.w wcl_X5_67) dX5_write_55 ?_
        refine lv_land hx hb dX5_write_58 ?_
        refine lv_l2i hx hb dX5_write_59 rfl ?_
        obtain ⟨h_in, hf⟩ := hf
        refine va_iast hx hb hB.K hP hD hS 1 0 rfl rfl h_in dX5_write_60 (fun H locs hP hD hS => ?_)
        have hP : va_P E.1 vwCl (w_X5_write E a_t a_storey a_wind a_pair a_text a_read a_now a_image a_isKept a_row a_sight a_ways a_ends a_tried v_storeys v_jacks v_soft v_pairs g31_v_bytes v_position v_tokenAt v_token v_digits v_number v_faultAt v_readMany v_readStoreys v_readPairs v_rows v_sights (upd j31_v_text (g31_v_bytes + j31_x4).toNatClampNeg (((g31_y1 >>> ((8 * j31_x4).toInt64 &&& 63)) &&& 255).toInt32))) H := hP
        have hD : va_D A (w_X5_write E a_t a_storey a_wind a_pair a_text a_read a_now a_image a_isKept a_row a_sight a_ways a_ends a_tried v_storeys v_jacks v_soft v_pairs g31_v_bytes v_position v_tokenAt v_token v_digits v_number v_faultAt v_readMany v_readStoreys v_readPairs v_rows v_sights (upd j31_v_text (g31_v_bytes + j31_x4).toNatClampNeg (((g31_y1 >>> ((8 * j31_x4).toInt64 &&& 63)) &&& 255).toInt32))) := hD
        refine lv_iinc (v := j31_x4 + 1) (lv' := [(4, .int (j31_x4 + 1)), (0, .ref a_t), (1, .long g31_y1), (3, .int g31_x3)]) hx hb dX5_write_61 hl (k := 3) rfl (by rw [kc_i_1]) (by decide) rfl (fun ls hl => ?_)
        refine lv_goto (tgt := 31) hx hb dX5_write_64 (by decide) ?_
        exact ih_31 (j31_x4 + 1) (upd j31_v_text (g31_v_bytes + j31_x4).toNatClampNeg (((g31_y1 >>> ((8 * j31_x4).toInt64 &&& 63)) &&& 255).toInt32)) ls H locs hf (lv_sub hl [1, 2, 3, 0] rfl) hP hD hS
  obtain ⟨H, locs, eH, eL⟩ : ∃ (H : Heap) (locs : List Loc), H = s.heap ∧ locs = [] := ⟨_, _, rfl, rfl⟩
  rw [← eH] at hP
  have hS : va_S A s.heap H locs := by rw [eH, eL]; exact hS
  show W p l e rm_X5_write s m args below meth c s.heap [] 0 0 Q (F0 m 0 ls [])
  rw [← eH, ← eL]
  refine lv_iload_n hx hb dX5_write_0 rfl (lv_at hl 2 rfl) ?_
  refine lv_iconst hx hb dX5_write_1 kc_i_1 ?_
  refine lv_bipush hx hb dX5_write_2 kc_b_8 ?_
  refine mx_gi (mx_runS (As := [.int x3, .int 1, .int 8]) (rest := []) hB (c_X5_in1 l E x3 1 8 _ hf) sB_X5_in1 wst_X5_in1 wml_X5_60 rfl (mx_pp hB hP [] rfl) hl.1 rfl (Nat.le_of_ble_eq_true rfl) dX5_write_4 ⟨Nat.zero_le _, Nat.zero_le _⟩) (fun r1 hf => ?_)
  refine lv_if_ne (tgt := 13) hx hb dX5_write_7 (by decide) (fun c7 => ?_) (fun c7 => ?_)
  · have hf := hf.1 c7
    refine lv_aload_n hx hb dX5_write_13 rfl (lv_at hl 0 rfl) ?_
    refine gf_X5_64 hB hP 0 rfl rfl dX5_write_14 ?_
    refine lv_iload_n hx hb dX5_write_17 rfl (lv_at hl 2 rfl) ?_
    refine lv_iadd hx hb dX5_write_18 ?_
    refine lv_sipush hx hb dX5_write_19 kc_s_200 ?_
    refine lv_icmp_le (tgt := 28) hx hb dX5_write_22 (by decide) (fun c22 => ?_) (fun c22 => ?_)
    · have hf := hf.1 c22
      refine lv_iconst hx hb dX5_write_28 kc_i_0 ?_
      refine lv_istore (lv' := [(4, .int 0), (0, .ref a_t), (1, .long y1), (3, .int x3)]) hx hb dX5_write_29 hl (by decide) rfl (fun ls hl => ?_)
      obtain ⟨n9, hf⟩ := hf
      exact L_31 y1 x3 v_bytes n9 0 v_text ls H locs hf (lv_sub hl [1, 2, 3, 0] rfl) hP hD hS
    · have hf := hf.2 c22
      refine lv_bipush hx hb dX5_write_25 kc_b_m5 ?_
      exact hRet (-5) (v_bytes, v_text) 27 ls H locs dX5_write_27 hf hP hS
  · have hf := hf.2 c7
    refine lv_bipush hx hb dX5_write_10 kc_b_m3 ?_
    exact hRet (-3) (v_bytes, v_text) 12 ls H locs dX5_write_12 hf hP hS
theorem c_X5_write (l : Launch) (E : mx_E) (a_t : Nat) (a_storey : Nat) (a_wind : Nat) (a_pair : Nat) (a_text : Nat) (a_read : Nat) (a_now : Nat) (a_image : Nat) (a_isKept : Nat) (a_row : Nat) (a_sight : Nat) (a_ways : Nat) (a_ends : Nat) (a_tried : Nat) (v_storeys : Int32) (v_jacks : Int32) (v_soft : Int32) (v_pairs : Int32) (v_bytes : Int32) (v_position : Int32) (v_tokenAt : Int32) (v_token : Int64) (v_digits : Int32) (v_number : Int32) (v_faultAt : Int32) (v_readMany : Int32) (v_readStoreys : Int32) (v_readPairs : Int32) (v_rows : Int32) (v_sights : Int32) (v_text : (Nat → Int32)) (sz : Nat) (y1 : Int64) (x3 : Int32) (post : Int32 → Int32 → (Nat → Int32) → Prop) (hf : f_X5_write v_bytes v_text y1 x3 post) : Met l yX5_write (Cond.code yX5_write cX5_write 5 (some .int) :: mx_WS) rm_X5_write (va_Pc [.ref a_t, .long y1, .int x3] (mx_Pw E (w_X5_write E a_t a_storey a_wind a_pair a_text a_read a_now a_image a_isKept a_row a_sight a_ways a_ends a_tried v_storeys v_jacks v_soft v_pairs v_bytes v_position v_tokenAt v_token v_digits v_number v_faultAt v_readMany v_readStoreys v_readPairs v_rows v_sights v_text) sz)) (va_Qi (fun (v : Int32) (u : Int32 × (Nat → Int32)) => post v u.1 u.2) (fun u t => va_P E.1 vwCl (w_X5_write E a_t a_storey a_wind a_pair a_text a_read a_now a_image a_isKept a_row a_sight a_ways a_ends a_tried v_storeys v_jacks v_soft v_pairs u.1 v_position v_tokenAt v_token v_digits v_number v_faultAt v_readMany v_readStoreys v_readPairs v_rows v_sights u.2) t.heap) (va_A (w_X5_write E a_t a_storey a_wind a_pair a_text a_read a_now a_image a_isKept a_row a_sight a_ways a_ends a_tried v_storeys v_jacks v_soft v_pairs v_bytes v_position v_tokenAt v_token v_digits v_number v_faultAt v_readMany v_readStoreys v_readPairs v_rows v_sights v_text) sz)) 0 0 (va_A (w_X5_write E a_t a_storey a_wind a_pair a_text a_read a_now a_image a_isKept a_row a_sight a_ways a_ends a_tried v_storeys v_jacks v_soft v_pairs v_bytes v_position v_tokenAt v_token v_digits v_number v_faultAt v_readMany v_readStoreys v_readPairs v_rows v_sights v_text) sz) :=
  mx_metWi (by decide) rfl rfl (fun hB hP hD hA hRet ls hl => b_X5_write E a_t a_storey a_wind a_pair a_text a_read a_now a_image a_isKept a_row a_sight a_ways a_ends a_tried v_storeys v_jacks v_soft v_pairs v_bytes v_position v_tokenAt v_token v_digits v_number v_faultAt v_readMany v_readStoreys v_readPairs v_rows v_sights v_text y1 x3 post hB hP hD hA hRet hf ls hl)
def rm_X5_erase : Room := { frames := 0, cells := 0, slots := 0, locals := 0 }
set_option maxHeartbeats 4000000 in
set_option maxRecDepth 100000 in
theorem b_X5_erase {p : Program} {l : Launch} {e : Env} {s : State} {m : MethodId} {args : Array Value} {below : List Frame} {meth : Method} {c : Code} {Q : State → Prop} {A : Nat → Prop} (E : mx_E) (a_t : Nat) (a_storey : Nat) (a_wind : Nat) (a_pair : Nat) (a_text : Nat) (a_read : Nat) (a_now : Nat) (a_image : Nat) (a_isKept : Nat) (a_row : Nat) (a_sight : Nat) (a_ways : Nat) (a_ends : Nat) (a_tried : Nat) (v_storeys : Int32) (v_jacks : Int32) (v_soft : Int32) (v_pairs : Int32) (v_bytes : Int32) (v_position : Int32) (v_tokenAt : Int32) (v_token : Int64) (v_digits : Int32) (v_number : Int32) (v_faultAt : Int32) (v_readMany : Int32) (v_readStoreys : Int32) (v_readPairs : Int32) (v_rows : Int32) (v_sights : Int32)  (post : Int32 → Int32 → Prop) (hB : mx_B p m c cX5_erase 2 s args RX5 E) (hP : va_P E.1 vwCl (w_X5_erase E a_t a_storey a_wind a_pair a_text a_read a_now a_image a_isKept a_row a_sight a_ways a_ends a_tried v_storeys v_jacks v_soft v_pairs v_bytes v_position v_tokenAt v_token v_digits v_number v_faultAt v_readMany v_readStoreys v_readPairs v_rows v_sights) s.heap) (hD : va_D A (w_X5_erase E a_t a_storey a_wind a_pair a_text a_read a_now a_image a_isKept a_row a_sight a_ways a_ends a_tried v_storeys v_jacks v_soft v_pairs v_bytes v_position v_tokenAt v_token v_digits v_number v_faultAt v_readMany v_readStoreys v_readPairs v_rows v_sights)) (hA : ∀ q : Nat, s.heap.size ≤ q → A q) (hRet : ∀ (v : Int32) (u : Int32) (pc : Nat) (ls : Array Slot) (H : Heap) (locs : List Loc), decode cX5_erase pc = .ok (.ireturn, 1) → post v u → va_P E.1 vwCl (w_X5_erase E a_t a_storey a_wind a_pair a_text a_read a_now a_image a_isKept a_row a_sight a_ways a_ends a_tried v_storeys v_jacks v_soft v_pairs u v_position v_tokenAt v_token v_digits v_number v_faultAt v_readMany v_readStoreys v_readPairs v_rows v_sights) H → va_S A s.heap H locs → W p l e rm_X5_erase s m args below meth c H locs 0 0 Q (F0 m pc ls [.int v])) (hf : f_X5_erase v_bytes post) (ls : Array Slot) (hl : lv_has ls 2 [(0, .ref a_t)]) : W p l e rm_X5_erase s m args below meth c s.heap [] 0 0 Q (F0 m 0 ls []) := by
  have hx := hB.x
  have hb := hB.b
  have hS : va_S A s.heap s.heap [] := va_S.rf
  obtain ⟨H, locs, eH, eL⟩ : ∃ (H : Heap) (locs : List Loc), H = s.heap ∧ locs = [] := ⟨_, _, rfl, rfl⟩
  rw [← eH] at hP
  have hS : va_S A s.heap H locs := by rw [eH, eL]; exact hS
  show W p l e rm_X5_erase s m args below meth c s.heap [] 0 0 Q (F0 m 0 ls [])
  rw [← eH, ← eL]
  refine lv_aload_n hx hb dX5_erase_0 rfl (lv_at hl 0 rfl) ?_
  refine gf_X5_64 hB hP 0 rfl rfl dX5_erase_1 ?_
  refine lv_istore_n (lv' := [(1, .int v_bytes), (0, .ref a_t)]) hx hb dX5_erase_4 rfl hl (by decide) rfl (fun ls hl => ?_)
  refine lv_aload_n hx hb dX5_erase_5 rfl (lv_at hl 1 rfl) ?_
  refine lv_iconst hx hb dX5_erase_6 kc_i_0 ?_
  refine pf_X5_64 hB hP hD hS 0 rfl (Nat.le_of_ble_eq_true rfl) dX5_erase_7 (w_X5_erase E a_t a_storey a_wind a_pair a_text a_read a_now a_image a_isKept a_row a_sight a_ways a_ends a_tried v_storeys v_jacks v_soft v_pairs 0 v_position v_tokenAt v_token v_digits v_number v_faultAt v_readMany v_readStoreys v_readPairs v_rows v_sights) rfl (fun H locs hP hD hS => ?_)
  refine lv_iload_n hx hb dX5_erase_10 rfl (lv_at hl 0 rfl) ?_
  exact hRet v_bytes 0 11 ls H locs dX5_erase_11 hf hP hS
theorem c_X5_erase (l : Launch) (E : mx_E) (a_t : Nat) (a_storey : Nat) (a_wind : Nat) (a_pair : Nat) (a_text : Nat) (a_read : Nat) (a_now : Nat) (a_image : Nat) (a_isKept : Nat) (a_row : Nat) (a_sight : Nat) (a_ways : Nat) (a_ends : Nat) (a_tried : Nat) (v_storeys : Int32) (v_jacks : Int32) (v_soft : Int32) (v_pairs : Int32) (v_bytes : Int32) (v_position : Int32) (v_tokenAt : Int32) (v_token : Int64) (v_digits : Int32) (v_number : Int32) (v_faultAt : Int32) (v_readMany : Int32) (v_readStoreys : Int32) (v_readPairs : Int32) (v_rows : Int32) (v_sights : Int32) (sz : Nat)  (post : Int32 → Int32 → Prop) (hf : f_X5_erase v_bytes post) : Met l yX5_erase (Cond.code yX5_erase cX5_erase 2 (some .int) :: mx_WS) rm_X5_erase (va_Pc [.ref a_t] (mx_Pw E (w_X5_erase E a_t a_storey a_wind a_pair a_text a_read a_now a_image a_isKept a_row a_sight a_ways a_ends a_tried v_storeys v_jacks v_soft v_pairs v_bytes v_position v_tokenAt v_token v_digits v_number v_faultAt v_readMany v_readStoreys v_readPairs v_rows v_sights) sz)) (va_Qi (fun (v : Int32) (u : Int32) => post v u) (fun u t => va_P E.1 vwCl (w_X5_erase E a_t a_storey a_wind a_pair a_text a_read a_now a_image a_isKept a_row a_sight a_ways a_ends a_tried v_storeys v_jacks v_soft v_pairs u v_position v_tokenAt v_token v_digits v_number v_faultAt v_readMany v_readStoreys v_readPairs v_rows v_sights) t.heap) (va_A (w_X5_erase E a_t a_storey a_wind a_pair a_text a_read a_now a_image a_isKept a_row a_sight a_ways a_ends a_tried v_storeys v_jacks v_soft v_pairs v_bytes v_position v_tokenAt v_token v_digits v_number v_faultAt v_readMany v_readStoreys v_readPairs v_rows v_sights) sz)) 0 0 (va_A (w_X5_erase E a_t a_storey a_wind a_pair a_text a_read a_now a_image a_isKept a_row a_sight a_ways a_ends a_tried v_storeys v_jacks v_soft v_pairs v_bytes v_position v_tokenAt v_token v_digits v_number v_faultAt v_readMany v_readStoreys v_readPairs v_rows v_sights) sz) :=
  mx_metWi (by decide) rfl rfl (fun hB hP hD hA hRet ls hl => b_X5_erase E a_t a_storey a_wind a_pair a_text a_read a_now a_image a_isKept a_row a_sight a_ways a_ends a_tried v_storeys v_jacks v_soft v_pairs v_bytes v_position v_tokenAt v_token v_digits v_number v_faultAt v_readMany v_readStoreys v_readPairs v_rows v_sights  post hB hP hD hA hRet hf ls hl)
def rm_X5_nextToken : Room := { frames := 1, cells := 0, slots := 0, locals := 22 }
set_option maxHeartbeats 4000000 in
set_option maxRecDepth 100000 in
theorem b_X5_nextToken {p : Program} {l : Launch} {e : Env} {s : State} {m : MethodId} {args : Array Value} {below : List Frame} {meth : Method} {c : Code} {Q : State → Prop} {A : Nat → Prop} (E : mx_E) (a_t : Nat) (a_storey : Nat) (a_wind : Nat) (a_pair : Nat) (a_text : Nat) (a_read : Nat) (a_now : Nat) (a_image : Nat) (a_isKept : Nat) (a_row : Nat) (a_sight : Nat) (a_ways : Nat) (a_ends : Nat) (a_tried : Nat) (v_storeys : Int32) (v_jacks : Int32) (v_soft : Int32) (v_pairs : Int32) (v_bytes : Int32) (v_position : Int32) (v_tokenAt : Int32) (v_token : Int64) (v_digits : Int32) (v_number : Int32) (v_faultAt : Int32) (v_readMany : Int32) (v_readStoreys : Int32) (v_readPairs : Int32) (v_rows : Int32) (v_sights : Int32) (v_text : (Nat → Int32))  (post : Int32 → Int32 → Int32 → Int64 → Int32 → Prop) (hB : mx_B p m c cX5_nextToken 1 s args RX5 E) (hP : va_P E.1 vwCl (w_X5_nextToken E a_t a_storey a_wind a_pair a_text a_read a_now a_image a_isKept a_row a_sight a_ways a_ends a_tried v_storeys v_jacks v_soft v_pairs v_bytes v_position v_tokenAt v_token v_digits v_number v_faultAt v_readMany v_readStoreys v_readPairs v_rows v_sights v_text) s.heap) (hD : va_D A (w_X5_nextToken E a_t a_storey a_wind a_pair a_text a_read a_now a_image a_isKept a_row a_sight a_ways a_ends a_tried v_storeys v_jacks v_soft v_pairs v_bytes v_position v_tokenAt v_token v_digits v_number v_faultAt v_readMany v_readStoreys v_readPairs v_rows v_sights v_text)) (hA : ∀ q : Nat, s.heap.size ≤ q → A q) (hRet : ∀ (u : Int32 × Int32 × Int32 × Int64 × Int32) (pc : Nat) (ls : Array Slot) (H : Heap) (locs : List Loc), decode cX5_nextToken pc = .ok (.return_, 1) → post u.1 u.2.1 u.2.2.1 u.2.2.2.1 u.2.2.2.2 → va_P E.1 vwCl (w_X5_nextToken E a_t a_storey a_wind a_pair a_text a_read a_now a_image a_isKept a_row a_sight a_ways a_ends a_tried v_storeys v_jacks v_soft v_pairs v_bytes u.2.2.2.2 u.1 u.2.2.2.1 u.2.1 u.2.2.1 v_faultAt v_readMany v_readStoreys v_readPairs v_rows v_sights v_text) H → va_S A s.heap H locs → W p l e rm_X5_nextToken s m args below meth c H locs 0 0 Q (F0 m pc ls [])) (hf : f_X5_nextToken v_bytes v_text v_tokenAt v_digits v_number v_token v_position post) (ls : Array Slot) (hl : lv_has ls 1 [(0, .ref a_t)]) : W p l e rm_X5_nextToken s m args below meth c s.heap [] 0 0 Q (F0 m 0 ls []) := by
  have hx := hB.x
  have hb := hB.b
  have hS : va_S A s.heap s.heap [] := va_S.rf
  have J_381 : ∀ (j381_k1 : Int64) (j381_v_tokenAt : Int32) (j381_v_digits : Int32) (j381_v_number : Int32) (j381_v_token : Int64) (j381_v_position : Int32) (ls : Array Slot) (H : Heap) (locs : List Loc), f_X5_nextToken_381 v_bytes v_text post j381_k1 j381_v_tokenAt j381_v_digits j381_v_number j381_v_token j381_v_position → lv_has ls 1 [(0, .ref a_t)] → va_P E.1 vwCl (w_X5_nextToken E a_t a_storey a_wind a_pair a_text a_read a_now a_image a_isKept a_row a_sight a_ways a_ends a_tried v_storeys v_jacks v_soft v_pairs v_bytes j381_v_position j381_v_tokenAt j381_v_token j381_v_digits j381_v_number v_faultAt v_readMany v_readStoreys v_readPairs v_rows v_sights v_text) H → va_D A (w_X5_nextToken E a_t a_storey a_wind a_pair a_text a_read a_now a_image a_isKept a_row a_sight a_ways a_ends a_tried v_storeys v_jacks v_soft v_pairs v_bytes j381_v_position j381_v_tokenAt j381_v_token j381_v_digits j381_v_number v_faultAt v_readMany v_readStoreys v_readPairs v_rows v_sights v_text) → va_S A s.heap H locs → W p l e rm_X5_nextToken s m args below meth c H locs 0 0 Q (F0 m 381 ls [.long j381_k1, .ref a_t]) := by
    intro j381_k1 j381_v_tokenAt j381_v_digits j381_v_number j381_v_token j381_v_position ls H locs hf hl hP hD hS
    refine pf_X5_83 hB hP hD hS 0 rfl (Nat.le_of_ble_eq_true rfl) dX5_nextToken_381 (w_X5_nextToken E a_t a_storey a_wind a_pair a_text a_read a_now a_image a_isKept a_row a_sight a_ways a_ends a_tried v_storeys v_jacks v_soft v_pairs v_bytes j381_v_position j381_v_tokenAt j381_k1 j381_v_digits j381_v_number v_faultAt v_readMany v_readStoreys v_readPairs v_rows v_sights v_text) rfl (fun H locs hP hD hS => ?_)
    refine lv_aload_n hx hb dX5_nextToken_384 rfl (lv_at hl 0 rfl) ?_
    refine lv_dup hx hb dX5_nextToken_385 rfl ?_
    refine gf_X5_69 hB hP 0 rfl rfl dX5_nextToken_386 ?_
    refine lv_iconst hx hb dX5_nextToken_389 kc_i_1 ?_
    refine lv_iadd hx hb dX5_nextToken_390 ?_
    refine pf_X5_69 hB hP hD hS 0 rfl (Nat.le_of_ble_eq_true rfl) dX5_nextToken_391 (w_X5_nextToken E a_t a_storey a_wind a_pair a_text a_read a_now a_image a_isKept a_row a_sight a_ways a_ends a_tried v_storeys v_jacks v_soft v_pairs v_bytes (j381_v_position + 1) j381_v_tokenAt j381_k1 j381_v_digits j381_v_number v_faultAt v_readMany v_readStoreys v_readPairs v_rows v_sights v_text) rfl (fun H locs hP hD hS => ?_)
    exact hRet (j381_v_tokenAt, j381_v_digits, j381_v_number, j381_k1, j381_v_position + 1) 394 ls H locs dX5_nextToken_394 hf hP hS
  have J_351 : ∀ (j351_k1 : Int64) (j351_v_tokenAt : Int32) (j351_v_digits : Int32) (j351_v_number : Int32) (j351_v_token : Int64) (j351_v_position : Int32) (ls : Array Slot) (H : Heap) (locs : List Loc), f_X5_nextToken_351 v_bytes v_text post j351_k1 j351_v_tokenAt j351_v_digits j351_v_number j351_v_token j351_v_position → lv_has ls 1 [] → va_P E.1 vwCl (w_X5_nextToken E a_t a_storey a_wind a_pair a_text a_read a_now a_image a_isKept a_row a_sight a_ways a_ends a_tried v_storeys v_jacks v_soft v_pairs v_bytes j351_v_position j351_v_tokenAt j351_v_token j351_v_digits j351_v_number v_faultAt v_readMany v_readStoreys v_readPairs v_rows v_sights v_text) H → va_D A (w_X5_nextToken E a_t a_storey a_wind a_pair a_text a_read a_now a_image a_isKept a_row a_sight a_ways a_ends a_tried v_storeys v_jacks v_soft v_pairs v_bytes j351_v_position j351_v_tokenAt j351_v_token j351_v_digits j351_v_number v_faultAt v_readMany v_readStoreys v_readPairs v_rows v_sights v_text) → va_S A s.heap H locs → W p l e rm_X5_nextToken s m args below meth c H locs 0 0 Q (F0 m 351 ls [.long j351_k1, .ref a_t]) := by
    intro j351_k1 j351_v_tokenAt j351_v_digits j351_v_number j351_v_token j351_v_position ls H locs hf hl hP hD hS
    refine pf_X5_83 hB hP hD hS 0 rfl (Nat.le_of_ble_eq_true rfl) dX5_nextToken_351 (w_X5_nextToken E a_t a_storey a_wind a_pair a_text a_read a_now a_image a_isKept a_row a_sight a_ways a_ends a_tried v_storeys v_jacks v_soft v_pairs v_bytes j351_v_position j351_v_tokenAt j351_k1 j351_v_digits j351_v_number v_faultAt v_readMany v_readStoreys v_readPairs v_rows v_sights v_text) rfl (fun H locs hP hD hS => ?_)
    refine lv_goto (tgt := 394) hx hb dX5_nextToken_354 (by decide) ?_
    exact hRet (j351_v_tokenAt, j351_v_digits, j351_v_number, j351_k1, j351_v_position) 394 ls H locs dX5_nextToken_394 hf hP hS
  have J_333 : ∀ (j333_v_tokenAt : Int32) (j333_v_digits : Int32) (j333_v_number : Int32) (j333_v_token : Int64) (j333_v_position : Int32) (ls : Array Slot) (H : Heap) (locs : List Loc), f_X5_nextToken_333 v_bytes v_text post j333_v_tokenAt j333_v_digits j333_v_number j333_v_token j333_v_position → lv_has ls 1 [(0, .ref a_t)] → va_P E.1 vwCl (w_X5_nextToken E a_t a_storey a_wind a_pair a_text a_read a_now a_image a_isKept a_row a_sight a_ways a_ends a_tried v_storeys v_jacks v_soft v_pairs v_bytes j333_v_position j333_v_tokenAt j333_v_token j333_v_digits j333_v_number v_faultAt v_readMany v_readStoreys v_readPairs v_rows v_sights v_text) H → va_D A (w_X5_nextToken E a_t a_storey a_wind a_pair a_text a_read a_now a_image a_isKept a_row a_sight a_ways a_ends a_tried v_storeys v_jacks v_soft v_pairs v_bytes j333_v_position j333_v_tokenAt j333_v_token j333_v_digits j333_v_number v_faultAt v_readMany v_readStoreys v_readPairs v_rows v_sights v_text) → va_S A s.heap H locs → W p l e rm_X5_nextToken s m args below meth c H locs 0 0 Q (F0 m 333 ls []) := by
    intro j333_v_tokenAt j333_v_digits j333_v_number j333_v_token j333_v_position ls H locs hf hl hP hD hS
    refine lv_aload_n hx hb dX5_nextToken_333 rfl (lv_at hl 0 rfl) ?_
    refine lv_aload_n hx hb dX5_nextToken_334 rfl (lv_at hl 0 rfl) ?_
    refine gf_X5_75 hB hP 0 rfl rfl dX5_nextToken_335 ?_
    refine lv_iconst hx hb dX5_nextToken_338 kc_i_3 ?_
    refine lv_icmp_le (tgt := 348) hx hb dX5_nextToken_339 (by decide) (fun c339 => ?_) (fun c339 => ?_)
    · have hf := hf.1 c339
      refine lv_ldc2 hx hb hB.o (hB.w wcl_X5_93) dX5_nextToken_348 ?_
      exact J_351 (-1) j333_v_tokenAt j333_v_digits j333_v_number j333_v_token j333_v_position ls H locs hf (lv_sub hl [] rfl) hP hD hS
    · have hf := hf.2 c339
      refine lv_ldc2 hx hb hB.o (hB.w wcl_X5_91) dX5_nextToken_342 ?_
      refine lv_goto (tgt := 351) hx hb dX5_nextToken_345 (by decide) ?_
      exact J_351 (-4) j333_v_tokenAt j333_v_digits j333_v_number j333_v_token j333_v_position ls H locs hf (lv_sub hl [] rfl) hP hD hS
  have L_241 : ∀ (g241_v_tokenAt : Int32) (g241_v_token : Int64) (n : Nat) (j241_v_digits : Int32) (j241_v_number : Int32) (j241_v_position : Int32) (ls : Array Slot) (H : Heap) (locs : List Loc), mx_l3 (f_X5_nextToken_241 v_bytes v_text post g241_v_tokenAt g241_v_token) n j241_v_digits j241_v_number j241_v_position → lv_has ls 1 [(0, .ref a_t)] → va_P E.1 vwCl (w_X5_nextToken E a_t a_storey a_wind a_pair a_text a_read a_now a_image a_isKept a_row a_sight a_ways a_ends a_tried v_storeys v_jacks v_soft v_pairs v_bytes j241_v_position g241_v_tokenAt g241_v_token j241_v_digits j241_v_number v_faultAt v_readMany v_readStoreys v_readPairs v_rows v_sights v_text) H → va_D A (w_X5_nextToken E a_t a_storey a_wind a_pair a_text a_read a_now a_image a_isKept a_row a_sight a_ways a_ends a_tried v_storeys v_jacks v_soft v_pairs v_bytes j241_v_position g241_v_tokenAt g241_v_token j241_v_digits j241_v_number v_faultAt v_readMany v_readStoreys v_readPairs v_rows v_sights v_text) → va_S A s.heap H locs → W p l e rm_X5_nextToken s m args below meth c H locs 0 0 Q (F0 m 241 ls []) := by
    intro g241_v_tokenAt g241_v_token n_241
    induction n_241 with
    | zero =>
      intro j241_v_digits j241_v_number j241_v_position ls H locs hf hl hP hD hS
      exact False.elim hf
    | succ n_241 ih_241 =>
      have J_307 : ∀ (j307_k1 : Int32) (j307_v_digits : Int32) (j307_v_number : Int32) (j307_v_position : Int32) (ls : Array Slot) (H : Heap) (locs : List Loc), f_X5_nextToken_307 v_bytes v_text (mx_l3 (f_X5_nextToken_241 v_bytes v_text post g241_v_tokenAt g241_v_token) n_241) post j307_k1 g241_v_tokenAt j307_v_digits j307_v_number g241_v_token j307_v_position → lv_has ls 1 [(0, .ref a_t)] → va_P E.1 vwCl (w_X5_nextToken E a_t a_storey a_wind a_pair a_text a_read a_now a_image a_isKept a_row a_sight a_ways a_ends a_tried v_storeys v_jacks v_soft v_pairs v_bytes j307_v_position g241_v_tokenAt g241_v_token j307_v_digits j307_v_number v_faultAt v_readMany v_readStoreys v_readPairs v_rows v_sights v_text) H → va_D A (w_X5_nextToken E a_t a_storey a_wind a_pair a_text a_read a_now a_image a_isKept a_row a_sight a_ways a_ends a_tried v_storeys v_jacks v_soft v_pairs v_bytes j307_v_position g241_v_tokenAt g241_v_token j307_v_digits j307_v_number v_faultAt v_readMany v_readStoreys v_readPairs v_rows v_sights v_text) → va_S A s.heap H locs → W p l e rm_X5_nextToken s m args below meth c H locs 0 0 Q (F0 m 307 ls [.int j307_k1, .ref a_t]) := by
        intro j307_k1 j307_v_digits j307_v_number j307_v_position ls H locs hf hl hP hD hS
        refine pf_X5_78 hB hP hD hS 0 rfl (Nat.le_of_ble_eq_true rfl) dX5_nextToken_307 (w_X5_nextToken E a_t a_storey a_wind a_pair a_text a_read a_now a_image a_isKept a_row a_sight a_ways a_ends a_tried v_storeys v_jacks v_soft v_pairs v_bytes j307_v_position g241_v_tokenAt g241_v_token j307_v_digits j307_k1 v_faultAt v_readMany v_readStoreys v_readPairs v_rows v_sights v_text) rfl (fun H locs hP hD hS => ?_)
        refine lv_aload_n hx hb dX5_nextToken_310 rfl (lv_at hl 0 rfl) ?_
        refine lv_dup hx hb dX5_nextToken_311 rfl ?_
        refine gf_X5_75 hB hP 0 rfl rfl dX5_nextToken_312 ?_
        refine lv_iconst hx hb dX5_nextToken_315 kc_i_1 ?_
        refine lv_iadd hx hb dX5_nextToken_316 ?_
        refine pf_X5_75 hB hP hD hS 0 rfl (Nat.le_of_ble_eq_true rfl) dX5_nextToken_317 (w_X5_nextToken E a_t a_storey a_wind a_pair a_text a_read a_now a_image a_isKept a_row a_sight a_ways a_ends a_tried v_storeys v_jacks v_soft v_pairs v_bytes j307_v_position g241_v_tokenAt g241_v_token (j307_v_digits + 1) j307_k1 v_faultAt v_readMany v_readStoreys v_readPairs v_rows v_sights v_text) rfl (fun H locs hP hD hS => ?_)
        refine lv_aload_n hx hb dX5_nextToken_320 rfl (lv_at hl 0 rfl) ?_
        refine lv_dup hx hb dX5_nextToken_321 rfl ?_
        refine gf_X5_69 hB hP 0 rfl rfl dX5_nextToken_322 ?_
        refine lv_iconst hx hb dX5_nextToken_325 kc_i_1 ?_
        refine lv_iadd hx hb dX5_nextToken_326 ?_
        refine pf_X5_69 hB hP hD hS 0 rfl (Nat.le_of_ble_eq_true rfl) dX5_nextToken_327 (w_X5_nextToken E a_t a_storey a_wind a_pair a_text a_read a_now a_image a_isKept a_row a_sight a_ways a_ends a_tried v_storeys v_jacks v_soft v_pairs v_bytes (j307_v_position + 1) g241_v_tokenAt g241_v_token (j307_v_digits + 1) j307_k1 v_faultAt v_readMany v_readStoreys v_readPairs v_rows v_sights v_text) rfl (fun H locs hP hD hS => ?_)
        refine lv_goto (tgt := 241) hx hb dX5_nextToken_330 (by decide) ?_
        exact ih_241 (j307_v_digits + 1) j307_k1 (j307_v_position + 1) ls H locs hf (lv_sub hl [0] rfl) hP hD hS
      intro j241_v_digits j241_v_number j241_v_position ls H locs hf hl hP hD hS
      replace hf : f_X5_nextToken_241 v_bytes v_text post g241_v_tokenAt g241_v_token (mx_l3 (f_X5_nextToken_241 v_bytes v_text post g241_v_tokenAt g241_v_token) n_241) j241_v_digits j241_v_number j241_v_position := hf
      refine lv_aload_n hx hb dX5_nextToken_241 rfl (lv_at hl 0 rfl) ?_
      refine gf_X5_69 hB hP 0 rfl rfl dX5_nextToken_242 ?_
      refine lv_aload_n hx hb dX5_nextToken_245 rfl (lv_at hl 0 rfl) ?_
      refine gf_X5_64 hB hP 0 rfl rfl dX5_nextToken_246 ?_
      refine lv_icmp_ge (tgt := 333) hx hb dX5_nextToken_249 (by decide) (fun c249 => ?_) (fun c249 => ?_)
      · have hf := hf.1 c249
        exact J_333 g241_v_tokenAt j241_v_digits j241_v_number g241_v_token j241_v_position ls H locs hf (lv_sub hl [0] rfl) hP hD hS
      · have hf := hf.2 c249
        refine lv_aload_n hx hb dX5_nextToken_252 rfl (lv_at hl 0 rfl) ?_
        refine gf_X5_26 hB hP 0 rfl rfl dX5_nextToken_253 ?_
        refine lv_aload_n hx hb dX5_nextToken_256 rfl (lv_at hl 0 rfl) ?_
        refine gf_X5_69 hB hP 0 rfl rfl dX5_nextToken_257 ?_
        obtain ⟨h_in, hf⟩ := hf
        refine va_iald hx hb hB.K hP 1 0 rfl rfl h_in dX5_nextToken_260 ?_
        refine lv_bipush hx hb dX5_nextToken_261 kc_b_48 ?_
        refine lv_bipush hx hb dX5_nextToken_263 kc_b_57 ?_
        refine mx_gi (mx_runS (As := [.int (v_text j241_v_position.toNatClampNeg), .int 48, .int 57]) (rest := []) hB (c_X5_in1 l E (v_text j241_v_position.toNatClampNeg) 48 57 _ hf) sB_X5_in1 wst_X5_in1 wml_X5_60 rfl (mx_pp hB hP [] rfl) hl.1 rfl (Nat.le_of_ble_eq_true rfl) dX5_nextToken_265 ⟨Nat.zero_le _, Nat.zero_le _⟩) (fun r1 hf => ?_)
        refine lv_if_eq (tgt := 333) hx hb dX5_nextToken_268 (by decide) (fun c268 => ?_) (fun c268 => ?_)
        · have hf := hf.1 c268
          exact J_333 g241_v_tokenAt j241_v_digits j241_v_number g241_v_token j241_v_position ls H locs hf (lv_sub hl [0] rfl) hP hD hS
        · have hf := hf.2 c268
          refine lv_aload_n hx hb dX5_nextToken_271 rfl (lv_at hl 0 rfl) ?_
          refine lv_aload_n hx hb dX5_nextToken_272 rfl (lv_at hl 0 rfl) ?_
          refine gf_X5_75 hB hP 0 rfl rfl dX5_nextToken_273 ?_
          refine lv_iconst hx hb dX5_nextToken_276 kc_i_3 ?_
          refine lv_icmp_ge (tgt := 303) hx hb dX5_nextToken_277 (by decide) (fun c277 => ?_) (fun c277 => ?_)
          · have hf := hf.1 c277
            refine lv_aload_n hx hb dX5_nextToken_303 rfl (lv_at hl 0 rfl) ?_
            refine gf_X5_78 hB hP 0 rfl rfl dX5_nextToken_304 ?_
            exact J_307 j241_v_number j241_v_digits j241_v_number j241_v_position ls H locs hf (lv_sub hl [0] rfl) hP hD hS
          · have hf := hf.2 c277
            refine lv_bipush hx hb dX5_nextToken_280 kc_b_10 ?_
            refine lv_aload_n hx hb dX5_nextToken_282 rfl (lv_at hl 0 rfl) ?_
            refine gf_X5_78 hB hP 0 rfl rfl dX5_nextToken_283 ?_
            refine lv_imul hx hb dX5_nextToken_286 ?_
            refine lv_aload_n hx hb dX5_nextToken_287 rfl (lv_at hl 0 rfl) ?_
            refine gf_X5_26 hB hP 0 rfl rfl dX5_nextToken_288 ?_
            refine lv_aload_n hx hb dX5_nextToken_291 rfl (lv_at hl 0 rfl) ?_
            refine gf_X5_69 hB hP 0 rfl rfl dX5_nextToken_292 ?_
            obtain ⟨h_in, hf⟩ := hf
            refine va_iald hx hb hB.K hP 1 0 rfl rfl h_in dX5_nextToken_295 ?_
            refine lv_iadd hx hb dX5_nextToken_296 ?_
            refine lv_bipush hx hb dX5_nextToken_297 kc_b_48 ?_
            refine lv_isub hx hb dX5_nextToken_299 ?_
            refine lv_goto (tgt := 307) hx hb dX5_nextToken_300 (by decide) ?_
            exact J_307 (((10 * j241_v_number) + (v_text j241_v_position.toNatClampNeg)) - 48) j241_v_digits j241_v_number j241_v_position ls H locs hf (lv_sub hl [0] rfl) hP hD hS
  have J_216 : ∀ (j216_k1 : Int64) (j216_v_tokenAt : Int32) (j216_v_digits : Int32) (j216_v_number : Int32) (j216_v_token : Int64) (j216_v_position : Int32) (ls : Array Slot) (H : Heap) (locs : List Loc), f_X5_nextToken_216 v_bytes v_text post j216_k1 j216_v_tokenAt j216_v_digits j216_v_number j216_v_token j216_v_position → lv_has ls 1 [] → va_P E.1 vwCl (w_X5_nextToken E a_t a_storey a_wind a_pair a_text a_read a_now a_image a_isKept a_row a_sight a_ways a_ends a_tried v_storeys v_jacks v_soft v_pairs v_bytes j216_v_position j216_v_tokenAt j216_v_token j216_v_digits j216_v_number v_faultAt v_readMany v_readStoreys v_readPairs v_rows v_sights v_text) H → va_D A (w_X5_nextToken E a_t a_storey a_wind a_pair a_text a_read a_now a_image a_isKept a_row a_sight a_ways a_ends a_tried v_storeys v_jacks v_soft v_pairs v_bytes j216_v_position j216_v_tokenAt j216_v_token j216_v_digits j216_v_number v_faultAt v_readMany v_readStoreys v_readPairs v_rows v_sights v_text) → va_S A s.heap H locs → W p l e rm_X5_nextToken s m args below meth c H locs 0 0 Q (F0 m 216 ls [.long j216_k1, .ref a_t]) := by
    intro j216_k1 j216_v_tokenAt j216_v_digits j216_v_number j216_v_token j216_v_position ls H locs hf hl hP hD hS
    refine pf_X5_83 hB hP hD hS 0 rfl (Nat.le_of_ble_eq_true rfl) dX5_nextToken_216 (w_X5_nextToken E a_t a_storey a_wind a_pair a_text a_read a_now a_image a_isKept a_row a_sight a_ways a_ends a_tried v_storeys v_jacks v_soft v_pairs v_bytes j216_v_position j216_v_tokenAt j216_k1 j216_v_digits j216_v_number v_faultAt v_readMany v_readStoreys v_readPairs v_rows v_sights v_text) rfl (fun H locs hP hD hS => ?_)
    refine lv_goto (tgt := 394) hx hb dX5_nextToken_219 (by decide) ?_
    exact hRet (j216_v_tokenAt, j216_v_digits, j216_v_number, j216_k1, j216_v_position) 394 ls H locs dX5_nextToken_394 hf hP hS
  have J_191 : ∀ (j191_v_tokenAt : Int32) (j191_v_digits : Int32) (j191_v_number : Int32) (j191_v_token : Int64) (j191_v_position : Int32) (ls : Array Slot) (H : Heap) (locs : List Loc), f_X5_nextToken_191 v_bytes v_text post j191_v_tokenAt j191_v_digits j191_v_number j191_v_token j191_v_position → lv_has ls 1 [(0, .ref a_t)] → va_P E.1 vwCl (w_X5_nextToken E a_t a_storey a_wind a_pair a_text a_read a_now a_image a_isKept a_row a_sight a_ways a_ends a_tried v_storeys v_jacks v_soft v_pairs v_bytes j191_v_position j191_v_tokenAt j191_v_token j191_v_digits j191_v_number v_faultAt v_readMany v_readStoreys v_readPairs v_rows v_sights v_text) H → va_D A (w_X5_nextToken E a_t a_storey a_wind a_pair a_text a_read a_now a_image a_isKept a_row a_sight a_ways a_ends a_tried v_storeys v_jacks v_soft v_pairs v_bytes j191_v_position j191_v_tokenAt j191_v_token j191_v_digits j191_v_number v_faultAt v_readMany v_readStoreys v_readPairs v_rows v_sights v_text) → va_S A s.heap H locs → W p l e rm_X5_nextToken s m args below meth c H locs 0 0 Q (F0 m 191 ls []) := by
    intro j191_v_tokenAt j191_v_digits j191_v_number j191_v_token j191_v_position ls H locs hf hl hP hD hS
    refine lv_aload_n hx hb dX5_nextToken_191 rfl (lv_at hl 0 rfl) ?_
    refine lv_aload_n hx hb dX5_nextToken_192 rfl (lv_at hl 0 rfl) ?_
    refine gf_X5_69 hB hP 0 rfl rfl dX5_nextToken_193 ?_
    refine lv_aload_n hx hb dX5_nextToken_196 rfl (lv_at hl 0 rfl) ?_
    refine gf_X5_72 hB hP 0 rfl rfl dX5_nextToken_197 ?_
    refine lv_isub hx hb dX5_nextToken_200 ?_
    refine lv_bipush hx hb dX5_nextToken_201 kc_b_9 ?_
    refine lv_icmp_le (tgt := 212) hx hb dX5_nextToken_203 (by decide) (fun c203 => ?_) (fun c203 => ?_)
    · have hf := hf.1 c203
      refine lv_aload_n hx hb dX5_nextToken_212 rfl (lv_at hl 0 rfl) ?_
      refine gf_X5_83 hB hP 0 rfl rfl dX5_nextToken_213 ?_
      exact J_216 j191_v_token j191_v_tokenAt j191_v_digits j191_v_number j191_v_token j191_v_position ls H locs hf (lv_sub hl [] rfl) hP hD hS
    · have hf := hf.2 c203
      refine lv_ldc2 hx hb hB.o (hB.w wcl_X5_91) dX5_nextToken_206 ?_
      refine lv_goto (tgt := 216) hx hb dX5_nextToken_209 (by decide) ?_
      exact J_216 (-4) j191_v_tokenAt j191_v_digits j191_v_number j191_v_token j191_v_position ls H locs hf (lv_sub hl [] rfl) hP hD hS
  have L_101 : ∀ (g101_v_tokenAt : Int32) (g101_v_digits : Int32) (g101_v_number : Int32) (n : Nat) (j101_v_token : Int64) (j101_v_position : Int32) (ls : Array Slot) (H : Heap) (locs : List Loc), mx_l2 (f_X5_nextToken_101 v_bytes v_text post g101_v_tokenAt g101_v_digits g101_v_number) n j101_v_token j101_v_position → lv_has ls 1 [(0, .ref a_t)] → va_P E.1 vwCl (w_X5_nextToken E a_t a_storey a_wind a_pair a_text a_read a_now a_image a_isKept a_row a_sight a_ways a_ends a_tried v_storeys v_jacks v_soft v_pairs v_bytes j101_v_position g101_v_tokenAt j101_v_token g101_v_digits g101_v_number v_faultAt v_readMany v_readStoreys v_readPairs v_rows v_sights v_text) H → va_D A (w_X5_nextToken E a_t a_storey a_wind a_pair a_text a_read a_now a_image a_isKept a_row a_sight a_ways a_ends a_tried v_storeys v_jacks v_soft v_pairs v_bytes j101_v_position g101_v_tokenAt j101_v_token g101_v_digits g101_v_number v_faultAt v_readMany v_readStoreys v_readPairs v_rows v_sights v_text) → va_S A s.heap H locs → W p l e rm_X5_nextToken s m args below meth c H locs 0 0 Q (F0 m 101 ls []) := by
    intro g101_v_tokenAt g101_v_digits g101_v_number n_101
    induction n_101 with
    | zero =>
      intro j101_v_token j101_v_position ls H locs hf hl hP hD hS
      exact False.elim hf
    | succ n_101 ih_101 =>
      have J_175 : ∀ (j175_k1 : Int64) (j175_v_token : Int64) (j175_v_position : Int32) (ls : Array Slot) (H : Heap) (locs : List Loc), f_X5_nextToken_175 v_bytes v_text (mx_l2 (f_X5_nextToken_101 v_bytes v_text post g101_v_tokenAt g101_v_digits g101_v_number) n_101) post j175_k1 g101_v_tokenAt g101_v_digits g101_v_number j175_v_token j175_v_position → lv_has ls 1 [(0, .ref a_t)] → va_P E.1 vwCl (w_X5_nextToken E a_t a_storey a_wind a_pair a_text a_read a_now a_image a_isKept a_row a_sight a_ways a_ends a_tried v_storeys v_jacks v_soft v_pairs v_bytes j175_v_position g101_v_tokenAt j175_v_token g101_v_digits g101_v_number v_faultAt v_readMany v_readStoreys v_readPairs v_rows v_sights v_text) H → va_D A (w_X5_nextToken E a_t a_storey a_wind a_pair a_text a_read a_now a_image a_isKept a_row a_sight a_ways a_ends a_tried v_storeys v_jacks v_soft v_pairs v_bytes j175_v_position g101_v_tokenAt j175_v_token g101_v_digits g101_v_number v_faultAt v_readMany v_readStoreys v_readPairs v_rows v_sights v_text) → va_S A s.heap H locs → W p l e rm_X5_nextToken s m args below meth c H locs 0 0 Q (F0 m 175 ls [.long j175_k1, .ref a_t]) := by
        intro j175_k1 j175_v_token j175_v_position ls H locs hf hl hP hD hS
        refine pf_X5_83 hB hP hD hS 0 rfl (Nat.le_of_ble_eq_true rfl) dX5_nextToken_175 (w_X5_nextToken E a_t a_storey a_wind a_pair a_text a_read a_now a_image a_isKept a_row a_sight a_ways a_ends a_tried v_storeys v_jacks v_soft v_pairs v_bytes j175_v_position g101_v_tokenAt j175_k1 g101_v_digits g101_v_number v_faultAt v_readMany v_readStoreys v_readPairs v_rows v_sights v_text) rfl (fun H locs hP hD hS => ?_)
        refine lv_aload_n hx hb dX5_nextToken_178 rfl (lv_at hl 0 rfl) ?_
        refine lv_dup hx hb dX5_nextToken_179 rfl ?_
        refine gf_X5_69 hB hP 0 rfl rfl dX5_nextToken_180 ?_
        refine lv_iconst hx hb dX5_nextToken_183 kc_i_1 ?_
        refine lv_iadd hx hb dX5_nextToken_184 ?_
        refine pf_X5_69 hB hP hD hS 0 rfl (Nat.le_of_ble_eq_true rfl) dX5_nextToken_185 (w_X5_nextToken E a_t a_storey a_wind a_pair a_text a_read a_now a_image a_isKept a_row a_sight a_ways a_ends a_tried v_storeys v_jacks v_soft v_pairs v_bytes (j175_v_position + 1) g101_v_tokenAt j175_k1 g101_v_digits g101_v_number v_faultAt v_readMany v_readStoreys v_readPairs v_rows v_sights v_text) rfl (fun H locs hP hD hS => ?_)
        refine lv_goto (tgt := 101) hx hb dX5_nextToken_188 (by decide) ?_
        exact ih_101 j175_k1 (j175_v_position + 1) ls H locs hf (lv_sub hl [0] rfl) hP hD hS
      intro j101_v_token j101_v_position ls H locs hf hl hP hD hS
      replace hf : f_X5_nextToken_101 v_bytes v_text post g101_v_tokenAt g101_v_digits g101_v_number (mx_l2 (f_X5_nextToken_101 v_bytes v_text post g101_v_tokenAt g101_v_digits g101_v_number) n_101) j101_v_token j101_v_position := hf
      refine lv_aload_n hx hb dX5_nextToken_101 rfl (lv_at hl 0 rfl) ?_
      refine gf_X5_69 hB hP 0 rfl rfl dX5_nextToken_102 ?_
      refine lv_aload_n hx hb dX5_nextToken_105 rfl (lv_at hl 0 rfl) ?_
      refine gf_X5_64 hB hP 0 rfl rfl dX5_nextToken_106 ?_
      refine lv_icmp_ge (tgt := 191) hx hb dX5_nextToken_109 (by decide) (fun c109 => ?_) (fun c109 => ?_)
      · have hf := hf.1 c109
        exact J_191 g101_v_tokenAt g101_v_digits g101_v_number j101_v_token j101_v_position ls H locs hf (lv_sub hl [0] rfl) hP hD hS
      · have hf := hf.2 c109
        refine lv_aload_n hx hb dX5_nextToken_112 rfl (lv_at hl 0 rfl) ?_
        refine gf_X5_26 hB hP 0 rfl rfl dX5_nextToken_113 ?_
        refine lv_aload_n hx hb dX5_nextToken_116 rfl (lv_at hl 0 rfl) ?_
        refine gf_X5_69 hB hP 0 rfl rfl dX5_nextToken_117 ?_
        obtain ⟨h_in, hf⟩ := hf
        refine va_iald hx hb hB.K hP 1 0 rfl rfl h_in dX5_nextToken_120 ?_
        refine lv_bipush hx hb dX5_nextToken_121 kc_b_97 ?_
        refine lv_bipush hx hb dX5_nextToken_123 kc_b_122 ?_
        refine mx_gi (mx_runS (As := [.int (v_text j101_v_position.toNatClampNeg), .int 97, .int 122]) (rest := []) hB (c_X5_in1 l E (v_text j101_v_position.toNatClampNeg) 97 122 _ hf) sB_X5_in1 wst_X5_in1 wml_X5_60 rfl (mx_pp hB hP [] rfl) hl.1 rfl (Nat.le_of_ble_eq_true rfl) dX5_nextToken_125 ⟨Nat.zero_le _, Nat.zero_le _⟩) (fun r1 hf => ?_)
        refine lv_if_eq (tgt := 191) hx hb dX5_nextToken_128 (by decide) (fun c128 => ?_) (fun c128 => ?_)
        · have hf := hf.1 c128
          exact J_191 g101_v_tokenAt g101_v_digits g101_v_number j101_v_token j101_v_position ls H locs hf (lv_sub hl [0] rfl) hP hD hS
        · have hf := hf.2 c128
          refine lv_aload_n hx hb dX5_nextToken_131 rfl (lv_at hl 0 rfl) ?_
          refine lv_aload_n hx hb dX5_nextToken_132 rfl (lv_at hl 0 rfl) ?_
          refine gf_X5_69 hB hP 0 rfl rfl dX5_nextToken_133 ?_
          refine lv_aload_n hx hb dX5_nextToken_136 rfl (lv_at hl 0 rfl) ?_
          refine gf_X5_72 hB hP 0 rfl rfl dX5_nextToken_137 ?_
          refine lv_isub hx hb dX5_nextToken_140 ?_
          refine lv_bipush hx hb dX5_nextToken_141 kc_b_9 ?_
          refine lv_icmp_ge (tgt := 172) hx hb dX5_nextToken_143 (by decide) (fun c143 => ?_) (fun c143 => ?_)
          · have hf := hf.1 c143
            refine lv_ldc2 hx hb hB.o (hB.w wcl_X5_91) dX5_nextToken_172 ?_
            exact J_175 (-4) j101_v_token j101_v_position ls H locs hf (lv_sub hl [0] rfl) hP hD hS
          · have hf := hf.2 c143
            refine lv_ldc2 hx hb hB.o (hB.w wcl_X5_87) dX5_nextToken_146 ?_
            refine lv_aload_n hx hb dX5_nextToken_149 rfl (lv_at hl 0 rfl) ?_
            refine gf_X5_83 hB hP 0 rfl rfl dX5_nextToken_150 ?_
            refine lv_lmul hx hb dX5_nextToken_153 ?_
            refine lv_aload_n hx hb dX5_nextToken_154 rfl (lv_at hl 0 rfl) ?_
            refine gf_X5_26 hB hP 0 rfl rfl dX5_nextToken_155 ?_
            refine lv_aload_n hx hb dX5_nextToken_158 rfl (lv_at hl 0 rfl) ?_
            refine gf_X5_69 hB hP 0 rfl rfl dX5_nextToken_159 ?_
            obtain ⟨h_in, hf⟩ := hf
            refine va_iald hx hb hB.K hP 1 0 rfl rfl h_in dX5_nextToken_162 ?_
            refine lv_i2l hx hb dX5_nextToken_163 rfl ?_
            refine lv_ladd hx hb dX5_nextToken_164 ?_
            refine lv_ldc2 hx hb hB.o (hB.w wcl_X5_89) dX5_nextToken_165 ?_
            refine lv_lsub hx hb dX5_nextToken_168 ?_
            refine lv_goto (tgt := 175) hx hb dX5_nextToken_169 (by decide) ?_
            exact J_175 (((27 * j101_v_token) + ((v_text j101_v_position.toNatClampNeg).toInt64)) - 96) j101_v_token j101_v_position ls H locs hf (lv_sub hl [0] rfl) hP hD hS
  have J_38 : ∀ (j38_v_tokenAt : Int32) (j38_v_digits : Int32) (j38_v_number : Int32) (j38_v_token : Int64) (j38_v_position : Int32) (ls : Array Slot) (H : Heap) (locs : List Loc), f_X5_nextToken_38 v_bytes v_text post j38_v_tokenAt j38_v_digits j38_v_number j38_v_token j38_v_position → lv_has ls 1 [(0, .ref a_t)] → va_P E.1 vwCl (w_X5_nextToken E a_t a_storey a_wind a_pair a_text a_read a_now a_image a_isKept a_row a_sight a_ways a_ends a_tried v_storeys v_jacks v_soft v_pairs v_bytes j38_v_position j38_v_tokenAt j38_v_token j38_v_digits j38_v_number v_faultAt v_readMany v_readStoreys v_readPairs v_rows v_sights v_text) H → va_D A (w_X5_nextToken E a_t a_storey a_wind a_pair a_text a_read a_now a_image a_isKept a_row a_sight a_ways a_ends a_tried v_storeys v_jacks v_soft v_pairs v_bytes j38_v_position j38_v_tokenAt j38_v_token j38_v_digits j38_v_number v_faultAt v_readMany v_readStoreys v_readPairs v_rows v_sights v_text) → va_S A s.heap H locs → W p l e rm_X5_nextToken s m args below meth c H locs 0 0 Q (F0 m 38 ls []) := by
    intro j38_v_tokenAt j38_v_digits j38_v_number j38_v_token j38_v_position ls H locs hf hl hP hD hS
    refine lv_aload_n hx hb dX5_nextToken_38 rfl (lv_at hl 0 rfl) ?_
    refine lv_aload_n hx hb dX5_nextToken_39 rfl (lv_at hl 0 rfl) ?_
    refine gf_X5_69 hB hP 0 rfl rfl dX5_nextToken_40 ?_
    refine pf_X5_72 hB hP hD hS 0 rfl (Nat.le_of_ble_eq_true rfl) dX5_nextToken_43 (w_X5_nextToken E a_t a_storey a_wind a_pair a_text a_read a_now a_image a_isKept a_row a_sight a_ways a_ends a_tried v_storeys v_jacks v_soft v_pairs v_bytes j38_v_position j38_v_position j38_v_token j38_v_digits j38_v_number v_faultAt v_readMany v_readStoreys v_readPairs v_rows v_sights v_text) rfl (fun H locs hP hD hS => ?_)
    refine lv_aload_n hx hb dX5_nextToken_46 rfl (lv_at hl 0 rfl) ?_
    refine lv_iconst hx hb dX5_nextToken_47 kc_i_0 ?_
    refine pf_X5_75 hB hP hD hS 0 rfl (Nat.le_of_ble_eq_true rfl) dX5_nextToken_48 (w_X5_nextToken E a_t a_storey a_wind a_pair a_text a_read a_now a_image a_isKept a_row a_sight a_ways a_ends a_tried v_storeys v_jacks v_soft v_pairs v_bytes j38_v_position j38_v_position j38_v_token 0 j38_v_number v_faultAt v_readMany v_readStoreys v_readPairs v_rows v_sights v_text) rfl (fun H locs hP hD hS => ?_)
    refine lv_aload_n hx hb dX5_nextToken_51 rfl (lv_at hl 0 rfl) ?_
    refine lv_iconst hx hb dX5_nextToken_52 kc_i_0 ?_
    refine pf_X5_78 hB hP hD hS 0 rfl (Nat.le_of_ble_eq_true rfl) dX5_nextToken_53 (w_X5_nextToken E a_t a_storey a_wind a_pair a_text a_read a_now a_image a_isKept a_row a_sight a_ways a_ends a_tried v_storeys v_jacks v_soft v_pairs v_bytes j38_v_position j38_v_position j38_v_token 0 0 v_faultAt v_readMany v_readStoreys v_readPairs v_rows v_sights v_text) rfl (fun H locs hP hD hS => ?_)
    refine lv_aload_n hx hb dX5_nextToken_56 rfl (lv_at hl 0 rfl) ?_
    refine gf_X5_69 hB hP 0 rfl rfl dX5_nextToken_57 ?_
    refine lv_aload_n hx hb dX5_nextToken_60 rfl (lv_at hl 0 rfl) ?_
    refine gf_X5_64 hB hP 0 rfl rfl dX5_nextToken_61 ?_
    refine lv_icmp_ne (tgt := 77) hx hb dX5_nextToken_64 (by decide) (fun c64 => ?_) (fun c64 => ?_)
    · have hf := hf.1 c64
      refine lv_aload_n hx hb dX5_nextToken_77 rfl (lv_at hl 0 rfl) ?_
      refine gf_X5_26 hB hP 0 rfl rfl dX5_nextToken_78 ?_
      refine lv_aload_n hx hb dX5_nextToken_81 rfl (lv_at hl 0 rfl) ?_
      refine gf_X5_69 hB hP 0 rfl rfl dX5_nextToken_82 ?_
      obtain ⟨h_in, hf⟩ := hf
      refine va_iald hx hb hB.K hP 1 0 rfl rfl h_in dX5_nextToken_85 ?_
      refine lv_bipush hx hb dX5_nextToken_86 kc_b_97 ?_
      refine lv_bipush hx hb dX5_nextToken_88 kc_b_122 ?_
      refine mx_gi (mx_runS (As := [.int (v_text j38_v_position.toNatClampNeg), .int 97, .int 122]) (rest := []) hB (c_X5_in1 l E (v_text j38_v_position.toNatClampNeg) 97 122 _ hf) sB_X5_in1 wst_X5_in1 wml_X5_60 rfl (mx_pp hB hP [] rfl) hl.1 rfl (Nat.le_of_ble_eq_true rfl) dX5_nextToken_90 ⟨Nat.zero_le _, Nat.zero_le _⟩) (fun r1 hf => ?_)
      refine lv_if_eq (tgt := 222) hx hb dX5_nextToken_93 (by decide) (fun c93 => ?_) (fun c93 => ?_)
      · have hf := hf.1 c93
        refine lv_aload_n hx hb dX5_nextToken_222 rfl (lv_at hl 0 rfl) ?_
        refine gf_X5_26 hB hP 0 rfl rfl dX5_nextToken_223 ?_
        refine lv_aload_n hx hb dX5_nextToken_226 rfl (lv_at hl 0 rfl) ?_
        refine gf_X5_69 hB hP 0 rfl rfl dX5_nextToken_227 ?_
        obtain ⟨h_in, hf⟩ := hf
        refine va_iald hx hb hB.K hP 1 0 rfl rfl h_in dX5_nextToken_230 ?_
        refine lv_bipush hx hb dX5_nextToken_231 kc_b_48 ?_
        refine lv_bipush hx hb dX5_nextToken_233 kc_b_57 ?_
        refine mx_gi (mx_runS (As := [.int (v_text j38_v_position.toNatClampNeg), .int 48, .int 57]) (rest := []) hB (c_X5_in1 l E (v_text j38_v_position.toNatClampNeg) 48 57 _ hf) sB_X5_in1 wst_X5_in1 wml_X5_60 rfl (mx_pp hB hP [] rfl) hl.1 rfl (Nat.le_of_ble_eq_true rfl) dX5_nextToken_235 ⟨Nat.zero_le _, Nat.zero_le _⟩) (fun r2 hf => ?_)
        refine lv_if_eq (tgt := 357) hx hb dX5_nextToken_238 (by decide) (fun c238 => ?_) (fun c238 => ?_)
        · have hf := hf.1 c238
          refine lv_aload_n hx hb dX5_nextToken_357 rfl (lv_at hl 0 rfl) ?_
          refine lv_aload_n hx hb dX5_nextToken_358 rfl (lv_at hl 0 rfl) ?_
          refine gf_X5_26 hB hP 0 rfl rfl dX5_nextToken_359 ?_
          refine lv_aload_n hx hb dX5_nextToken_362 rfl (lv_at hl 0 rfl) ?_
          refine gf_X5_69 hB hP 0 rfl rfl dX5_nextToken_363 ?_
          obtain ⟨h_in, hf⟩ := hf
          refine va_iald hx hb hB.K hP 1 0 rfl rfl h_in dX5_nextToken_366 ?_
          refine lv_bipush hx hb dX5_nextToken_367 kc_b_59 ?_
          refine lv_icmp_ne (tgt := 378) hx hb dX5_nextToken_369 (by decide) (fun c369 => ?_) (fun c369 => ?_)
          · have hf := hf.1 c369
            refine lv_ldc2 hx hb hB.o (hB.w wcl_X5_91) dX5_nextToken_378 ?_
            exact J_381 (-4) j38_v_position 0 0 j38_v_token j38_v_position ls H locs hf (lv_sub hl [0] rfl) hP hD hS
          · have hf := hf.2 c369
            refine lv_ldc2 hx hb hB.o (hB.w wcl_X5_95) dX5_nextToken_372 ?_
            refine lv_goto (tgt := 381) hx hb dX5_nextToken_375 (by decide) ?_
            exact J_381 (-3) j38_v_position 0 0 j38_v_token j38_v_position ls H locs hf (lv_sub hl [0] rfl) hP hD hS
        · have hf := hf.2 c238
          obtain ⟨n9, hf⟩ := hf
          exact L_241 j38_v_position j38_v_token n9 0 0 j38_v_position ls H locs hf (lv_sub hl [0] rfl) hP hD hS
      · have hf := hf.2 c93
        refine lv_aload_n hx hb dX5_nextToken_96 rfl (lv_at hl 0 rfl) ?_
        refine lv_lconst hx hb dX5_nextToken_97 kc_l_0 ?_
        refine pf_X5_83 hB hP hD hS 0 rfl (Nat.le_of_ble_eq_true rfl) dX5_nextToken_98 (w_X5_nextToken E a_t a_storey a_wind a_pair a_text a_read a_now a_image a_isKept a_row a_sight a_ways a_ends a_tried v_storeys v_jacks v_soft v_pairs v_bytes j38_v_position j38_v_position 0 0 0 v_faultAt v_readMany v_readStoreys v_readPairs v_rows v_sights v_text) rfl (fun H locs hP hD hS => ?_)
        obtain ⟨n9, hf⟩ := hf
        exact L_101 j38_v_position 0 0 n9 0 j38_v_position ls H locs hf (lv_sub hl [0] rfl) hP hD hS
    · have hf := hf.2 c64
      refine lv_aload_n hx hb dX5_nextToken_67 rfl (lv_at hl 0 rfl) ?_
      refine lv_ldc2 hx hb hB.o (hB.w wcl_X5_81) dX5_nextToken_68 ?_
      refine pf_X5_83 hB hP hD hS 0 rfl (Nat.le_of_ble_eq_true rfl) dX5_nextToken_71 (w_X5_nextToken E a_t a_storey a_wind a_pair a_text a_read a_now a_image a_isKept a_row a_sight a_ways a_ends a_tried v_storeys v_jacks v_soft v_pairs v_bytes j38_v_position j38_v_position (-2) 0 0 v_faultAt v_readMany v_readStoreys v_readPairs v_rows v_sights v_text) rfl (fun H locs hP hD hS => ?_)
      refine lv_goto (tgt := 394) hx hb dX5_nextToken_74 (by decide) ?_
      exact hRet (j38_v_position, 0, 0, (-2), j38_v_position) 394 ls H locs dX5_nextToken_394 hf hP hS
  have L_0 : ∀ (g0_v_tokenAt : Int32) (g0_v_digits : Int32) (g0_v_number : Int32) (g0_v_token : Int64) (n : Nat) (j0_v_position : Int32) (ls : Array Slot) (H : Heap) (locs : List Loc), mx_l1 (f_X5_nextToken_0 v_bytes v_text post g0_v_tokenAt g0_v_digits g0_v_number g0_v_token) n j0_v_position → lv_has ls 1 [(0, .ref a_t)] → va_P E.1 vwCl (w_X5_nextToken E a_t a_storey a_wind a_pair a_text a_read a_now a_image a_isKept a_row a_sight a_ways a_ends a_tried v_storeys v_jacks v_soft v_pairs v_bytes j0_v_position g0_v_tokenAt g0_v_token g0_v_digits g0_v_number v_faultAt v_readMany v_readStoreys v_readPairs v_rows v_sights v_text) H → va_D A (w_X5_nextToken E a_t a_storey a_wind a_pair a_text a_read a_now a_image a_isKept a_row a_sight a_ways a_ends a_tried v_storeys v_jacks v_soft v_pairs v_bytes j0_v_position g0_v_tokenAt g0_v_token g0_v_digits g0_v_number v_faultAt v_readMany v_readStoreys v_readPairs v_rows v_sights v_text) → va_S A s.heap H locs → W p l e rm_X5_nextToken s m args below meth c H locs 0 0 Q (F0 m 0 ls []) := by
    intro g0_v_tokenAt g0_v_digits g0_v_number g0_v_token n_0
    induction n_0 with
    | zero =>
      intro j0_v_position ls H locs hf hl hP hD hS
      exact False.elim hf
    | succ n_0 ih_0 =>
      intro j0_v_position ls H locs hf hl hP hD hS
      replace hf : f_X5_nextToken_0 v_bytes v_text post g0_v_tokenAt g0_v_digits g0_v_number g0_v_token (mx_l1 (f_X5_nextToken_0 v_bytes v_text post g0_v_tokenAt g0_v_digits g0_v_number g0_v_token) n_0) j0_v_position := hf
      refine lv_aload_n hx hb dX5_nextToken_0 rfl (lv_at hl 0 rfl) ?_
      refine gf_X5_69 hB hP 0 rfl rfl dX5_nextToken_1 ?_
      refine lv_aload_n hx hb dX5_nextToken_4 rfl (lv_at hl 0 rfl) ?_
      refine gf_X5_64 hB hP 0 rfl rfl dX5_nextToken_5 ?_
      refine lv_icmp_ge (tgt := 38) hx hb dX5_nextToken_8 (by decide) (fun c8 => ?_) (fun c8 => ?_)
      · have hf := hf.1 c8
        exact J_38 g0_v_tokenAt g0_v_digits g0_v_number g0_v_token j0_v_position ls H locs hf (lv_sub hl [0] rfl) hP hD hS
      · have hf := hf.2 c8
        refine lv_aload_n hx hb dX5_nextToken_11 rfl (lv_at hl 0 rfl) ?_
        refine gf_X5_26 hB hP 0 rfl rfl dX5_nextToken_12 ?_
        refine lv_aload_n hx hb dX5_nextToken_15 rfl (lv_at hl 0 rfl) ?_
        refine gf_X5_69 hB hP 0 rfl rfl dX5_nextToken_16 ?_
        obtain ⟨h_in, hf⟩ := hf
        refine va_iald hx hb hB.K hP 1 0 rfl rfl h_in dX5_nextToken_19 ?_
        refine lv_bipush hx hb dX5_nextToken_20 kc_b_32 ?_
        refine lv_icmp_ne (tgt := 38) hx hb dX5_nextToken_22 (by decide) (fun c22 => ?_) (fun c22 => ?_)
        · have hf := hf.1 c22
          exact J_38 g0_v_tokenAt g0_v_digits g0_v_number g0_v_token j0_v_position ls H locs hf (lv_sub hl [0] rfl) hP hD hS
        · have hf := hf.2 c22
          refine lv_aload_n hx hb dX5_nextToken_25 rfl (lv_at hl 0 rfl) ?_
          refine lv_dup hx hb dX5_nextToken_26 rfl ?_
          refine gf_X5_69 hB hP 0 rfl rfl dX5_nextToken_27 ?_
          refine lv_iconst hx hb dX5_nextToken_30 kc_i_1 ?_
          refine lv_iadd hx hb dX5_nextToken_31 ?_
          refine pf_X5_69 hB hP hD hS 0 rfl (Nat.le_of_ble_eq_true rfl) dX5_nextToken_32 (w_X5_nextToken E a_t a_storey a_wind a_pair a_text a_read a_now a_image a_isKept a_row a_sight a_ways a_ends a_tried v_storeys v_jacks v_soft v_pairs v_bytes (j0_v_position + 1) g0_v_tokenAt g0_v_token g0_v_digits g0_v_number v_faultAt v_readMany v_readStoreys v_readPairs v_rows v_sights v_text) rfl (fun H locs hP hD hS => ?_)
          refine lv_goto (tgt := 0) hx hb dX5_nextToken_35 (by decide) ?_
          exact ih_0 (j0_v_position + 1) ls H locs hf (lv_sub hl [0] rfl) hP hD hS
  obtain ⟨H, locs, eH, eL⟩ : ∃ (H : Heap) (locs : List Loc), H = s.heap ∧ locs = [] := ⟨_, _, rfl, rfl⟩
  rw [← eH] at hP
  have hS : va_S A s.heap H locs := by rw [eH, eL]; exact hS
  show W p l e rm_X5_nextToken s m args below meth c s.heap [] 0 0 Q (F0 m 0 ls [])
  rw [← eH, ← eL]
  obtain ⟨n9, hf⟩ := hf
  exact L_0 v_tokenAt v_digits v_number v_token n9 v_position ls H locs hf (lv_sub hl [0] rfl) hP hD hS
theorem c_X5_nextToken (l : Launch) (E : mx_E) (a_t : Nat) (a_storey : Nat) (a_wind : Nat) (a_pair : Nat) (a_text : Nat) (a_read : Nat) (a_now : Nat) (a_image : Nat) (a_isKept : Nat) (a_row : Nat) (a_sight : Nat) (a_ways : Nat) (a_ends : Nat) (a_tried : Nat) (v_storeys : Int32) (v_jacks : Int32) (v_soft : Int32) (v_pairs : Int32) (v_bytes : Int32) (v_position : Int32) (v_tokenAt : Int32) (v_token : Int64) (v_digits : Int32) (v_number : Int32) (v_faultAt : Int32) (v_readMany : Int32) (v_readStoreys : Int32) (v_readPairs : Int32) (v_rows : Int32) (v_sights : Int32) (v_text : (Nat → Int32)) (sz : Nat)  (post : Int32 → Int32 → Int32 → Int64 → Int32 → Prop) (hf : f_X5_nextToken v_bytes v_text v_tokenAt v_digits v_number v_token v_position post) : Met l yX5_nextToken (Cond.code yX5_nextToken cX5_nextToken 1 none :: mx_WS) rm_X5_nextToken (va_Pc [.ref a_t] (mx_Pw E (w_X5_nextToken E a_t a_storey a_wind a_pair a_text a_read a_now a_image a_isKept a_row a_sight a_ways a_ends a_tried v_storeys v_jacks v_soft v_pairs v_bytes v_position v_tokenAt v_token v_digits v_number v_faultAt v_readMany v_readStoreys v_readPairs v_rows v_sights v_text) sz)) (va_Qv (fun (u : Int32 × Int32 × Int32 × Int64 × Int32) => post u.1 u.2.1 u.2.2.1 u.2.2.2.1 u.2.2.2.2) (fun u t => va_P E.1 vwCl (w_X5_nextToken E a_t a_storey a_wind a_pair a_text a_read a_now a_image a_isKept a_row a_sight a_ways a_ends a_tried v_storeys v_jacks v_soft v_pairs v_bytes u.2.2.2.2 u.1 u.2.2.2.1 u.2.1 u.2.2.1 v_faultAt v_readMany v_readStoreys v_readPairs v_rows v_sights v_text) t.heap) (va_A (w_X5_nextToken E a_t a_storey a_wind a_pair a_text a_read a_now a_image a_isKept a_row a_sight a_ways a_ends a_tried v_storeys v_jacks v_soft v_pairs v_bytes v_position v_tokenAt v_token v_digits v_number v_faultAt v_readMany v_readStoreys v_readPairs v_rows v_sights v_text) sz)) 0 0 (va_A (w_X5_nextToken E a_t a_storey a_wind a_pair a_text a_read a_now a_image a_isKept a_row a_sight a_ways a_ends a_tried v_storeys v_jacks v_soft v_pairs v_bytes v_position v_tokenAt v_token v_digits v_number v_faultAt v_readMany v_readStoreys v_readPairs v_rows v_sights v_text) sz) :=
  mx_metWv (by decide) rfl rfl (fun hB hP hD hA hRet ls hl => b_X5_nextToken E a_t a_storey a_wind a_pair a_text a_read a_now a_image a_isKept a_row a_sight a_ways a_ends a_tried v_storeys v_jacks v_soft v_pairs v_bytes v_position v_tokenAt v_token v_digits v_number v_faultAt v_readMany v_readStoreys v_readPairs v_rows v_sights v_text  post hB hP hD hA hRet hf ls hl)
def rm_X5_fails : Room := { frames := 0, cells := 0, slots := 0, locals := 0 }
set_option maxHeartbeats 4000000 in
set_option maxRecDepth 100000 in
theorem b_X5_fails {p : Program} {l : Launch} {e : Env} {s : State} {m : MethodId} {args : Array Value} {below : List Frame} {meth : Method} {c : Code} {Q : State → Prop} {A : Nat → Prop} (E : mx_E) (a_t : Nat) (a_storey : Nat) (a_wind : Nat) (a_pair : Nat) (a_text : Nat) (a_read : Nat) (a_now : Nat) (a_image : Nat) (a_isKept : Nat) (a_row : Nat) (a_sight : Nat) (a_ways : Nat) (a_ends : Nat) (a_tried : Nat) (v_storeys : Int32) (v_jacks : Int32) (v_soft : Int32) (v_pairs : Int32) (v_bytes : Int32) (v_position : Int32) (v_tokenAt : Int32) (v_token : Int64) (v_digits : Int32) (v_number : Int32) (v_faultAt : Int32) (v_readMany : Int32) (v_readStoreys : Int32) (v_readPairs : Int32) (v_rows : Int32) (v_sights : Int32)  (post : Int32 → Int32 → Prop) (hB : mx_B p m c cX5_fails 1 s args RX5 E) (hP : va_P E.1 vwCl (w_X5_fails E a_t a_storey a_wind a_pair a_text a_read a_now a_image a_isKept a_row a_sight a_ways a_ends a_tried v_storeys v_jacks v_soft v_pairs v_bytes v_position v_tokenAt v_token v_digits v_number v_faultAt v_readMany v_readStoreys v_readPairs v_rows v_sights) s.heap) (hD : va_D A (w_X5_fails E a_t a_storey a_wind a_pair a_text a_read a_now a_image a_isKept a_row a_sight a_ways a_ends a_tried v_storeys v_jacks v_soft v_pairs v_bytes v_position v_tokenAt v_token v_digits v_number v_faultAt v_readMany v_readStoreys v_readPairs v_rows v_sights)) (hA : ∀ q : Nat, s.heap.size ≤ q → A q) (hRet : ∀ (v : Int32) (u : Int32) (pc : Nat) (ls : Array Slot) (H : Heap) (locs : List Loc), decode cX5_fails pc = .ok (.ireturn, 1) → (v = 0 ∨ v = 1) → post v u → va_P E.1 vwCl (w_X5_fails E a_t a_storey a_wind a_pair a_text a_read a_now a_image a_isKept a_row a_sight a_ways a_ends a_tried v_storeys v_jacks v_soft v_pairs v_bytes v_position v_tokenAt v_token v_digits v_number u v_readMany v_readStoreys v_readPairs v_rows v_sights) H → va_S A s.heap H locs → W p l e rm_X5_fails s m args below meth c H locs 0 0 Q (F0 m pc ls [.int v])) (hf : f_X5_fails v_tokenAt v_faultAt post) (ls : Array Slot) (hl : lv_has ls 1 [(0, .ref a_t)]) : W p l e rm_X5_fails s m args below meth c s.heap [] 0 0 Q (F0 m 0 ls []) := by
  have hx := hB.x
  have hb := hB.b
  have hS : va_S A s.heap s.heap [] := va_S.rf
  obtain ⟨H, locs, eH, eL⟩ : ∃ (H : Heap) (locs : List Loc), H = s.heap ∧ locs = [] := ⟨_, _, rfl, rfl⟩
  rw [← eH] at hP
  have hS : va_S A s.heap H locs := by rw [eH, eL]; exact hS
  show W p l e rm_X5_fails s m args below meth c s.heap [] 0 0 Q (F0 m 0 ls [])
  rw [← eH, ← eL]
  refine lv_aload_n hx hb dX5_fails_0 rfl (lv_at hl 0 rfl) ?_
  refine lv_aload_n hx hb dX5_fails_1 rfl (lv_at hl 0 rfl) ?_
  refine gf_X5_72 hB hP 0 rfl rfl dX5_fails_2 ?_
  refine pf_X5_97 hB hP hD hS 0 rfl (Nat.le_of_ble_eq_true rfl) dX5_fails_5 (w_X5_fails E a_t a_storey a_wind a_pair a_text a_read a_now a_image a_isKept a_row a_sight a_ways a_ends a_tried v_storeys v_jacks v_soft v_pairs v_bytes v_position v_tokenAt v_token v_digits v_number v_tokenAt v_readMany v_readStoreys v_readPairs v_rows v_sights) rfl (fun H locs hP hD hS => ?_)
  refine lv_iconst hx hb dX5_fails_8 kc_i_0 ?_
  exact hRet 0 v_tokenAt 9 ls H locs dX5_fails_9 (Or.inl rfl) hf hP hS
theorem c_X5_fails (l : Launch) (E : mx_E) (a_t : Nat) (a_storey : Nat) (a_wind : Nat) (a_pair : Nat) (a_text : Nat) (a_read : Nat) (a_now : Nat) (a_image : Nat) (a_isKept : Nat) (a_row : Nat) (a_sight : Nat) (a_ways : Nat) (a_ends : Nat) (a_tried : Nat) (v_storeys : Int32) (v_jacks : Int32) (v_soft : Int32) (v_pairs : Int32) (v_bytes : Int32) (v_position : Int32) (v_tokenAt : Int32) (v_token : Int64) (v_digits : Int32) (v_number : Int32) (v_faultAt : Int32) (v_readMany : Int32) (v_readStoreys : Int32) (v_readPairs : Int32) (v_rows : Int32) (v_sights : Int32) (sz : Nat)  (post : Int32 → Int32 → Prop) (hf : f_X5_fails v_tokenAt v_faultAt post) : Met l yX5_fails (Cond.code yX5_fails cX5_fails 1 (some .boolean) :: mx_WS) rm_X5_fails (va_Pc [.ref a_t] (mx_Pw E (w_X5_fails E a_t a_storey a_wind a_pair a_text a_read a_now a_image a_isKept a_row a_sight a_ways a_ends a_tried v_storeys v_jacks v_soft v_pairs v_bytes v_position v_tokenAt v_token v_digits v_number v_faultAt v_readMany v_readStoreys v_readPairs v_rows v_sights) sz)) (va_Qi (fun (v : Int32) (u : Int32) => post v u) (fun u t => va_P E.1 vwCl (w_X5_fails E a_t a_storey a_wind a_pair a_text a_read a_now a_image a_isKept a_row a_sight a_ways a_ends a_tried v_storeys v_jacks v_soft v_pairs v_bytes v_position v_tokenAt v_token v_digits v_number u v_readMany v_readStoreys v_readPairs v_rows v_sights) t.heap) (va_A (w_X5_fails E a_t a_storey a_wind a_pair a_text a_read a_now a_image a_isKept a_row a_sight a_ways a_ends a_tried v_storeys v_jacks v_soft v_pairs v_bytes v_position v_tokenAt v_token v_digits v_number v_faultAt v_readMany v_readStoreys v_readPairs v_rows v_sights) sz)) 0 0 (va_A (w_X5_fails E a_t a_storey a_wind a_pair a_text a_read a_now a_image a_isKept a_row a_sight a_ways a_ends a_tried v_storeys v_jacks v_soft v_pairs v_bytes v_position v_tokenAt v_token v_digits v_number v_faultAt v_readMany v_readStoreys v_readPairs v_rows v_sights) sz) :=
  mx_metWz (by decide) rfl rfl (fun hB hP hD hA hRet ls hl => b_X5_fails E a_t a_storey a_wind a_pair a_text a_read a_now a_image a_isKept a_row a_sight a_ways a_ends a_tried v_storeys v_jacks v_soft v_pairs v_bytes v_position v_tokenAt v_token v_digits v_number v_faultAt v_readMany v_readStoreys v_readPairs v_rows v_sights  post hB hP hD hA hRet hf ls hl)
def rm_X5_isNumber : Room := { frames := 2, cells := 0, slots := 0, locals := 42 }
set_option maxHeartbeats 4000000 in
set_option maxRecDepth 100000 in
theorem b_X5_isNumber {p : Program} {l : Launch} {e : Env} {s : State} {m : MethodId} {args : Array Value} {below : List Frame} {meth : Method} {c : Code} {Q : State → Prop} {A : Nat → Prop} (E : mx_E) (a_t : Nat) (a_storey : Nat) (a_wind : Nat) (a_pair : Nat) (a_text : Nat) (a_read : Nat) (a_now : Nat) (a_image : Nat) (a_isKept : Nat) (a_row : Nat) (a_sight : Nat) (a_ways : Nat) (a_ends : Nat) (a_tried : Nat) (v_storeys : Int32) (v_jacks : Int32) (v_soft : Int32) (v_pairs : Int32) (v_bytes : Int32) (v_position : Int32) (v_tokenAt : Int32) (v_token : Int64) (v_digits : Int32) (v_number : Int32) (v_faultAt : Int32) (v_readMany : Int32) (v_readStoreys : Int32) (v_readPairs : Int32) (v_rows : Int32) (v_sights : Int32) (v_text : (Nat → Int32)) (v_read : (Nat → Int32)) (x1 : Int32) (x2 : Int32) (x3 : Int32) (post : Int32 → Int32 → Int32 → Int32 → Int64 → Int32 → Int32 → (Nat → Int32) → Prop) (hB : mx_B p m c cX5_isNumber 4 s args RX5 E) (hP : va_P E.1 vwCl (w_X5_isNumber E a_t a_storey a_wind a_pair a_text a_read a_now a_image a_isKept a_row a_sight a_ways a_ends a_tried v_storeys v_jacks v_soft v_pairs v_bytes v_position v_tokenAt v_token v_digits v_number v_faultAt v_readMany v_readStoreys v_readPairs v_rows v_sights v_text v_read) s.heap) (hD : va_D A (w_X5_isNumber E a_t a_storey a_wind a_pair a_text a_read a_now a_image a_isKept a_row a_sight a_ways a_ends a_tried v_storeys v_jacks v_soft v_pairs v_bytes v_position v_tokenAt v_token v_digits v_number v_faultAt v_readMany v_readStoreys v_readPairs v_rows v_sights v_text v_read)) (hA : ∀ q : Nat, s.heap.size ≤ q → A q) (hRet : ∀ (v : Int32) (u : Int32 × Int32 × Int32 × Int64 × Int32 × Int32 × (Nat → Int32)) (pc : Nat) (ls : Array Slot) (H : Heap) (locs : List Loc), decode cX5_isNumber pc = .ok (.ireturn, 1) → (v = 0 ∨ v = 1) → post v u.1 u.2.1 u.2.2.1 u.2.2.2.1 u.2.2.2.2.1 u.2.2.2.2.2.1 u.2.2.2.2.2.2 → va_P E.1 vwCl (w_X5_isNumber E a_t a_storey a_wind a_pair a_text a_read a_now a_image a_isKept a_row a_sight a_ways a_ends a_tried v_storeys v_jacks v_soft v_pairs v_bytes u.2.2.2.2.1 u.1 u.2.2.2.1 u.2.1 u.2.2.1 u.2.2.2.2.2.1 v_readMany v_readStoreys v_readPairs v_rows v_sights v_text u.2.2.2.2.2.2) H → va_S A s.heap H locs → W p l e rm_X5_isNumber s m args below meth c H locs 0 0 Q (F0 m pc ls [.int v])) (hf : f_X5_isNumber v_bytes v_text v_tokenAt v_digits v_number v_token v_position v_faultAt v_read x1 x2 x3 post) (ls : Array Slot) (hl : lv_has ls 4 [(0, .ref a_t), (1, .int x1), (2, .int x2), (3, .int x3)]) : W p l e rm_X5_isNumber s m args below meth c s.heap [] 0 0 Q (F0 m 0 ls []) := by
  have hx := hB.x
  have hb := hB.b
  have hS : va_S A s.heap s.heap [] := va_S.rf
  have J_27 : ∀ (j27_v_tokenAt : Int32) (j27_v_digits : Int32) (j27_v_number : Int32) (j27_v_token : Int64) (j27_v_position : Int32) (j27_v_faultAt : Int32) (j27_v_read : (Nat → Int32)) (ls : Array Slot) (H : Heap) (locs : List Loc), f_X5_isNumber_27 v_bytes v_text post j27_v_tokenAt j27_v_digits j27_v_number j27_v_token j27_v_position j27_v_faultAt j27_v_read → lv_has ls 4 [(0, .ref a_t)] → va_P E.1 vwCl (w_X5_isNumber E a_t a_storey a_wind a_pair a_text a_read a_now a_image a_isKept a_row a_sight a_ways a_ends a_tried v_storeys v_jacks v_soft v_pairs v_bytes j27_v_position j27_v_tokenAt j27_v_token j27_v_digits j27_v_number j27_v_faultAt v_readMany v_readStoreys v_readPairs v_rows v_sights v_text j27_v_read) H → va_D A (w_X5_isNumber E a_t a_storey a_wind a_pair a_text a_read a_now a_image a_isKept a_row a_sight a_ways a_ends a_tried v_storeys v_jacks v_soft v_pairs v_bytes j27_v_position j27_v_tokenAt j27_v_token j27_v_digits j27_v_number j27_v_faultAt v_readMany v_readStoreys v_readPairs v_rows v_sights v_text j27_v_read) → va_S A s.heap H locs → W p l e rm_X5_isNumber s m args below meth c H locs 0 0 Q (F0 m 27 ls []) := by
    intro j27_v_tokenAt j27_v_digits j27_v_number j27_v_token j27_v_position j27_v_faultAt j27_v_read ls H locs hf hl hP hD hS
    refine lv_aload_n hx hb dX5_isNumber_27 rfl (lv_at hl 0 rfl) ?_
    refine mx_wi (mx_runV (As := []) (rest := []) hB (c_X5_fails l E a_t a_storey a_wind a_pair a_text a_read a_now a_image a_isKept a_row a_sight a_ways a_ends a_tried v_storeys v_jacks v_soft v_pairs v_bytes j27_v_position j27_v_tokenAt j27_v_token j27_v_digits j27_v_number j27_v_faultAt v_readMany v_readStoreys v_readPairs v_rows v_sights H.size  _ hf) sB_X5_fails sV_X5_fails wml_X5_103 rfl (mx_pwV hB hP hD [0] (by decide) rfl rfl 5 rfl rfl rfl) hl.1 rfl (Nat.le_of_ble_eq_true rfl) dX5_isNumber_28 ⟨Nat.zero_le _, Nat.zero_le _⟩) hP hD hS hA [0] [1, 2] 3 rfl (fun u => w_X5_isNumber E a_t a_storey a_wind a_pair a_text a_read a_now a_image a_isKept a_row a_sight a_ways a_ends a_tried v_storeys v_jacks v_soft v_pairs v_bytes j27_v_position j27_v_tokenAt j27_v_token j27_v_digits j27_v_number u v_readMany v_readStoreys v_readPairs v_rows v_sights v_text j27_v_read) (fun _ => rfl) (by decide) (fun _ => rfl) (fun _ => rfl) rfl (fun _ => rfl) (fun r1 u H locs hf hP hD hS => ?_)
    obtain ⟨u2, rfl⟩ : ∃ z, z = u := ⟨_, rfl⟩
    have hP : va_P E.1 vwCl (w_X5_isNumber E a_t a_storey a_wind a_pair a_text a_read a_now a_image a_isKept a_row a_sight a_ways a_ends a_tried v_storeys v_jacks v_soft v_pairs v_bytes j27_v_position j27_v_tokenAt j27_v_token j27_v_digits j27_v_number u2 v_readMany v_readStoreys v_readPairs v_rows v_sights v_text j27_v_read) H := hP
    have hD : va_D A (w_X5_isNumber E a_t a_storey a_wind a_pair a_text a_read a_now a_image a_isKept a_row a_sight a_ways a_ends a_tried v_storeys v_jacks v_soft v_pairs v_bytes j27_v_position j27_v_tokenAt j27_v_token j27_v_digits j27_v_number u2 v_readMany v_readStoreys v_readPairs v_rows v_sights v_text j27_v_read) := hD
    obtain ⟨h01, hf⟩ := hf
    exact hRet r1 (j27_v_tokenAt, j27_v_digits, j27_v_number, j27_v_token, j27_v_position, u2, j27_v_read) 31 ls H locs dX5_isNumber_31 h01 hf hP hS
  obtain ⟨H, locs, eH, eL⟩ : ∃ (H : Heap) (locs : List Loc), H = s.heap ∧ locs = [] := ⟨_, _, rfl, rfl⟩
  rw [← eH] at hP
  have hS : va_S A s.heap H locs := by rw [eH, eL]; exact hS
  show W p l e rm_X5_isNumber s m args below meth c s.heap [] 0 0 Q (F0 m 0 ls [])
  rw [← eH, ← eL]
  refine lv_aload_n hx hb dX5_isNumber_0 rfl (lv_at hl 0 rfl) ?_
  refine mx_wv (mx_runV (As := []) (rest := []) hB (c_X5_nextToken l E a_t a_storey a_wind a_pair a_text a_read a_now a_image a_isKept a_row a_sight a_ways a_ends a_tried v_storeys v_jacks v_soft v_pairs v_bytes v_position v_tokenAt v_token v_digits v_number v_faultAt v_readMany v_readStoreys v_readPairs v_rows v_sights v_text H.size  _ hf) sB_X5_nextToken sV_X5_nextToken wml_X5_100 rfl (mx_pwV hB hP hD [0, 1] (by decide) rfl rfl 5 rfl rfl rfl) hl.1 rfl (Nat.le_of_ble_eq_true rfl) dX5_isNumber_1 ⟨Nat.zero_le _, Nat.zero_le _⟩) hP hD hS hA [0, 1] [2] 3 rfl (fun u => w_X5_isNumber E a_t a_storey a_wind a_pair a_text a_read a_now a_image a_isKept a_row a_sight a_ways a_ends a_tried v_storeys v_jacks v_soft v_pairs v_bytes u.2.2.2.2 u.1 u.2.2.2.1 u.2.1 u.2.2.1 v_faultAt v_readMany v_readStoreys v_readPairs v_rows v_sights v_text v_read) (fun _ => rfl) (by decide) (fun _ => rfl) (fun _ => rfl) rfl (fun _ => rfl) (fun u H locs hf hP hD hS => ?_)
  obtain ⟨u2, u3, u4, u5, u6⟩ := u
  have hP : va_P E.1 vwCl (w_X5_isNumber E a_t a_storey a_wind a_pair a_text a_read a_now a_image a_isKept a_row a_sight a_ways a_ends a_tried v_storeys v_jacks v_soft v_pairs v_bytes u6 u2 u5 u3 u4 v_faultAt v_readMany v_readStoreys v_readPairs v_rows v_sights v_text v_read) H := hP
  have hD : va_D A (w_X5_isNumber E a_t a_storey a_wind a_pair a_text a_read a_now a_image a_isKept a_row a_sight a_ways a_ends a_tried v_storeys v_jacks v_soft v_pairs v_bytes u6 u2 u5 u3 u4 v_faultAt v_readMany v_readStoreys v_readPairs v_rows v_sights v_text v_read) := hD
  refine lv_aload_n hx hb dX5_isNumber_4 rfl (lv_at hl 0 rfl) ?_
  refine gf_X5_83 hB hP 0 rfl rfl dX5_isNumber_5 ?_
  refine lv_ldc2 hx hb hB.o (hB.w wcl_X5_93) dX5_isNumber_8 ?_
  refine W.lcmp hx hb dX5_isNumber_11 ?_
  refine lv_if_ne (tgt := 27) hx hb dX5_isNumber_12 (by decide) (fun c12 => ?_) (fun c12 => ?_)
  · have hf := hf.1 c12
    exact J_27 u2 u3 u4 u5 u6 v_faultAt v_read ls H locs hf (lv_sub hl [0] rfl) hP hD hS
  · have hf := hf.2 c12
    refine lv_aload_n hx hb dX5_isNumber_15 rfl (lv_at hl 0 rfl) ?_
    refine gf_X5_78 hB hP 0 rfl rfl dX5_isNumber_16 ?_
    refine lv_iload_n hx hb dX5_isNumber_19 rfl (lv_at hl 2 rfl) ?_
    refine lv_iload_n hx hb dX5_isNumber_20 rfl (lv_at hl 3 rfl) ?_
    refine mx_gi (mx_runS (As := [.int u4, .int x2, .int x3]) (rest := []) hB (c_X5_in1 l E u4 x2 x3 _ hf) sB_X5_in1 wst_X5_in1 wml_X5_60 rfl (mx_pp hB hP [] rfl) hl.1 rfl (Nat.le_of_ble_eq_true rfl) dX5_isNumber_21 ⟨Nat.zero_le _, Nat.zero_le _⟩) (fun r7 hf => ?_)
    refine lv_if_ne (tgt := 32) hx hb dX5_isNumber_24 (by decide) (fun c24 => ?_) (fun c24 => ?_)
    · have hf := hf.1 c24
      refine lv_aload_n hx hb dX5_isNumber_32 rfl (lv_at hl 0 rfl) ?_
      refine gf_X5_29 hB hP 0 rfl rfl dX5_isNumber_33 ?_
      refine lv_iload_n hx hb dX5_isNumber_36 rfl (lv_at hl 1 rfl) ?_
      refine lv_aload_n hx hb dX5_isNumber_37 rfl (lv_at hl 0 rfl) ?_
      refine gf_X5_78 hB hP 0 rfl rfl dX5_isNumber_38 ?_
      obtain ⟨h_in, hf⟩ := hf
      refine va_iast hx hb hB.K hP hD hS 2 0 rfl rfl h_in dX5_isNumber_41 (fun H locs hP hD hS => ?_)
      have hP : va_P E.1 vwCl (w_X5_isNumber E a_t a_storey a_wind a_pair a_text a_read a_now a_image a_isKept a_row a_sight a_ways a_ends a_tried v_storeys v_jacks v_soft v_pairs v_bytes u6 u2 u5 u3 u4 v_faultAt v_readMany v_readStoreys v_readPairs v_rows v_sights v_text (upd v_read x1.toNatClampNeg u4)) H := hP
      have hD : va_D A (w_X5_isNumber E a_t a_storey a_wind a_pair a_text a_read a_now a_image a_isKept a_row a_sight a_ways a_ends a_tried v_storeys v_jacks v_soft v_pairs v_bytes u6 u2 u5 u3 u4 v_faultAt v_readMany v_readStoreys v_readPairs v_rows v_sights v_text (upd v_read x1.toNatClampNeg u4)) := hD
      refine lv_iconst hx hb dX5_isNumber_42 kc_i_1 ?_
      exact hRet 1 (u2, u3, u4, u5, u6, v_faultAt, upd v_read x1.toNatClampNeg u4) 43 ls H locs dX5_isNumber_43 (Or.inr rfl) hf hP hS
    · have hf := hf.2 c24
      exact J_27 u2 u3 u4 u5 u6 v_faultAt v_read ls H locs hf (lv_sub hl [0] rfl) hP hD hS
theorem c_X5_isNumber (l : Launch) (E : mx_E) (a_t : Nat) (a_storey : Nat) (a_wind : Nat) (a_pair : Nat) (a_text : Nat) (a_read : Nat) (a_now : Nat) (a_image : Nat) (a_isKept : Nat) (a_row : Nat) (a_sight : Nat) (a_ways : Nat) (a_ends : Nat) (a_tried : Nat) (v_storeys : Int32) (v_jacks : Int32) (v_soft : Int32) (v_pairs : Int32) (v_bytes : Int32) (v_position : Int32) (v_tokenAt : Int32) (v_token : Int64) (v_digits : Int32) (v_number : Int32) (v_faultAt : Int32) (v_readMany : Int32) (v_readStoreys : Int32) (v_readPairs : Int32) (v_rows : Int32) (v_sights : Int32) (v_text : (Nat → Int32)) (v_read : (Nat → Int32)) (sz : Nat) (x1 : Int32) (x2 : Int32) (x3 : Int32) (post : Int32 → Int32 → Int32 → Int32 → Int64 → Int32 → Int32 → (Nat → Int32) → Prop) (hf : f_X5_isNumber v_bytes v_text v_tokenAt v_digits v_number v_token v_position v_faultAt v_read x1 x2 x3 post) : Met l yX5_isNumber (Cond.code yX5_isNumber cX5_isNumber 4 (some .boolean) :: mx_WS) rm_X5_isNumber (va_Pc [.ref a_t, .int x1, .int x2, .int x3] (mx_Pw E (w_X5_isNumber E a_t a_storey a_wind a_pair a_text a_read a_now a_image a_isKept a_row a_sight a_ways a_ends a_tried v_storeys v_jacks v_soft v_pairs v_bytes v_position v_tokenAt v_token v_digits v_number v_faultAt v_readMany v_readStoreys v_readPairs v_rows v_sights v_text v_read) sz)) (va_Qi (fun (v : Int32) (u : Int32 × Int32 × Int32 × Int64 × Int32 × Int32 × (Nat → Int32)) => post v u.1 u.2.1 u.2.2.1 u.2.2.2.1 u.2.2.2.2.1 u.2.2.2.2.2.1 u.2.2.2.2.2.2) (fun u t => va_P E.1 vwCl (w_X5_isNumber E a_t a_storey a_wind a_pair a_text a_read a_now a_image a_isKept a_row a_sight a_ways a_ends a_tried v_storeys v_jacks v_soft v_pairs v_bytes u.2.2.2.2.1 u.1 u.2.2.2.1 u.2.1 u.2.2.1 u.2.2.2.2.2.1 v_readMany v_readStoreys v_readPairs v_rows v_sights v_text u.2.2.2.2.2.2) t.heap) (va_A (w_X5_isNumber E a_t a_storey a_wind a_pair a_text a_read a_now a_image a_isKept a_row a_sight a_ways a_ends a_tried v_storeys v_jacks v_soft v_pairs v_bytes v_position v_tokenAt v_token v_digits v_number v_faultAt v_readMany v_readStoreys v_readPairs v_rows v_sights v_text v_read) sz)) 0 0 (va_A (w_X5_isNumber E a_t a_storey a_wind a_pair a_text a_read a_now a_image a_isKept a_row a_sight a_ways a_ends a_tried v_storeys v_jacks v_soft v_pairs v_bytes v_position v_tokenAt v_token v_digits v_number v_faultAt v_readMany v_readStoreys v_readPairs v_rows v_sights v_text v_read) sz) :=
  mx_metWz (by decide) rfl rfl (fun hB hP hD hA hRet ls hl => b_X5_isNumber E a_t a_storey a_wind a_pair a_text a_read a_now a_image a_isKept a_row a_sight a_ways a_ends a_tried v_storeys v_jacks v_soft v_pairs v_bytes v_position v_tokenAt v_token v_digits v_number v_faultAt v_readMany v_readStoreys v_readPairs v_rows v_sights v_text v_read x1 x2 x3 post hB hP hD hA hRet hf ls hl)
def rm_X5_isThere : Room := { frames := 3, cells := 0, slots := 0, locals := 65 }
set_option maxHeartbeats 4000000 in
set_option maxRecDepth 100000 in
theorem b_X5_isThere {p : Program} {l : Launch} {e : Env} {s : State} {m : MethodId} {args : Array Value} {below : List Frame} {meth : Method} {c : Code} {Q : State → Prop} {A : Nat → Prop} (E : mx_E) (a_t : Nat) (a_storey : Nat) (a_wind : Nat) (a_pair : Nat) (a_text : Nat) (a_read : Nat) (a_now : Nat) (a_image : Nat) (a_isKept : Nat) (a_row : Nat) (a_sight : Nat) (a_ways : Nat) (a_ends : Nat) (a_tried : Nat) (v_storeys : Int32) (v_jacks : Int32) (v_soft : Int32) (v_pairs : Int32) (v_bytes : Int32) (v_position : Int32) (v_tokenAt : Int32) (v_token : Int64) (v_digits : Int32) (v_number : Int32) (v_faultAt : Int32) (v_readMany : Int32) (v_readStoreys : Int32) (v_readPairs : Int32) (v_rows : Int32) (v_sights : Int32) (v_text : (Nat → Int32)) (v_read : (Nat → Int32)) (x1 : Int32) (post : Int32 → Int32 → Int32 → Int32 → Int64 → Int32 → Int32 → (Nat → Int32) → Prop) (hB : mx_B p m c cX5_isThere 2 s args RX5 E) (hP : va_P E.1 vwCl (w_X5_isThere E a_t a_storey a_wind a_pair a_text a_read a_now a_image a_isKept a_row a_sight a_ways a_ends a_tried v_storeys v_jacks v_soft v_pairs v_bytes v_position v_tokenAt v_token v_digits v_number v_faultAt v_readMany v_readStoreys v_readPairs v_rows v_sights v_text v_read) s.heap) (hD : va_D A (w_X5_isThere E a_t a_storey a_wind a_pair a_text a_read a_now a_image a_isKept a_row a_sight a_ways a_ends a_tried v_storeys v_jacks v_soft v_pairs v_bytes v_position v_tokenAt v_token v_digits v_number v_faultAt v_readMany v_readStoreys v_readPairs v_rows v_sights v_text v_read)) (hA : ∀ q : Nat, s.heap.size ≤ q → A q) (hRet : ∀ (v : Int32) (u : Int32 × Int32 × Int32 × Int64 × Int32 × Int32 × (Nat → Int32)) (pc : Nat) (ls : Array Slot) (H : Heap) (locs : List Loc), decode cX5_isThere pc = .ok (.ireturn, 1) → (v = 0 ∨ v = 1) → post v u.1 u.2.1 u.2.2.1 u.2.2.2.1 u.2.2.2.2.1 u.2.2.2.2.2.1 u.2.2.2.2.2.2 → va_P E.1 vwCl (w_X5_isThere E a_t a_storey a_wind a_pair a_text a_read a_now a_image a_isKept a_row a_sight a_ways a_ends a_tried v_storeys v_jacks v_soft v_pairs v_bytes u.2.2.2.2.1 u.1 u.2.2.2.1 u.2.1 u.2.2.1 u.2.2.2.2.2.1 v_readMany v_readStoreys v_readPairs v_rows v_sights v_text u.2.2.2.2.2.2) H → va_S A s.heap H locs → W p l e rm_X5_isThere s m args below meth c H locs 0 0 Q (F0 m pc ls [.int v])) (hf : f_X5_isThere v_readStoreys v_bytes v_text v_tokenAt v_digits v_number v_token v_position v_faultAt v_read x1 post) (ls : Array Slot) (hl : lv_has ls 2 [(0, .ref a_t), (1, .int x1)]) : W p l e rm_X5_isThere s m args below meth c s.heap [] 0 0 Q (F0 m 0 ls []) := by
  have hx := hB.x
  have hb := hB.b
  have hS : va_S A s.heap s.heap [] := va_S.rf
  obtain ⟨H, locs, eH, eL⟩ : ∃ (H : Heap) (locs : List Loc), H = s.heap ∧ locs = [] := ⟨_, _, rfl, rfl⟩
  rw [← eH] at hP
  have hS : va_S A s.heap H locs := by rw [eH, eL]; exact hS
  show W p l e rm_X5_isThere s m args below meth c s.heap [] 0 0 Q (F0 m 0 ls [])
  rw [← eH, ← eL]
  refine lv_aload_n hx hb dX5_isThere_0 rfl (lv_at hl 0 rfl) ?_
  refine lv_iload_n hx hb dX5_isThere_1 rfl (lv_at hl 1 rfl) ?_
  refine lv_iconst hx hb dX5_isThere_2 kc_i_0 ?_
  refine lv_aload_n hx hb dX5_isThere_3 rfl (lv_at hl 0 rfl) ?_
  refine gf_X5_107 hB hP 0 rfl rfl dX5_isThere_4 ?_
  refine lv_iconst hx hb dX5_isThere_7 kc_i_1 ?_
  refine lv_isub hx hb dX5_isThere_8 ?_
  refine mx_wi (mx_runV (As := [.int x1, .int 0, .int (v_readStoreys - 1)]) (rest := []) hB (c_X5_isNumber l E a_t a_storey a_wind a_pair a_text a_read a_now a_image a_isKept a_row a_sight a_ways a_ends a_tried v_storeys v_jacks v_soft v_pairs v_bytes v_position v_tokenAt v_token v_digits v_number v_faultAt v_readMany v_readStoreys v_readPairs v_rows v_sights v_text v_read H.size x1 0 (v_readStoreys - 1) _ hf) sB_X5_isNumber sV_X5_isNumber wml_X5_110 rfl (mx_pwV hB hP hD [0, 1, 2] (by decide) rfl rfl 5 rfl rfl rfl) hl.1 rfl (Nat.le_of_ble_eq_true rfl) dX5_isThere_9 ⟨Nat.zero_le _, Nat.zero_le _⟩) hP hD hS hA [0, 1, 2] [] 3 rfl (fun u => w_X5_isThere E a_t a_storey a_wind a_pair a_text a_read a_now a_image a_isKept a_row a_sight a_ways a_ends a_tried v_storeys v_jacks v_soft v_pairs v_bytes u.2.2.2.2.1 u.1 u.2.2.2.1 u.2.1 u.2.2.1 u.2.2.2.2.2.1 v_readMany v_readStoreys v_readPairs v_rows v_sights v_text u.2.2.2.2.2.2) (fun _ => rfl) (by decide) (fun _ => rfl) (fun _ => rfl) rfl (fun _ => rfl) (fun r1 u H locs hf hP hD hS => ?_)
  obtain ⟨u2, u3, u4, u5, u6, u7, u8⟩ := u
  have hP : va_P E.1 vwCl (w_X5_isThere E a_t a_storey a_wind a_pair a_text a_read a_now a_image a_isKept a_row a_sight a_ways a_ends a_tried v_storeys v_jacks v_soft v_pairs v_bytes u6 u2 u5 u3 u4 u7 v_readMany v_readStoreys v_readPairs v_rows v_sights v_text u8) H := hP
  have hD : va_D A (w_X5_isThere E a_t a_storey a_wind a_pair a_text a_read a_now a_image a_isKept a_row a_sight a_ways a_ends a_tried v_storeys v_jacks v_soft v_pairs v_bytes u6 u2 u5 u3 u4 u7 v_readMany v_readStoreys v_readPairs v_rows v_sights v_text u8) := hD
  obtain ⟨h01, hf⟩ := hf
  exact hRet r1 (u2, u3, u4, u5, u6, u7, u8) 12 ls H locs dX5_isThere_12 h01 hf hP hS
theorem c_X5_isThere (l : Launch) (E : mx_E) (a_t : Nat) (a_storey : Nat) (a_wind : Nat) (a_pair : Nat) (a_text : Nat) (a_read : Nat) (a_now : Nat) (a_image : Nat) (a_isKept : Nat) (a_row : Nat) (a_sight : Nat) (a_ways : Nat) (a_ends : Nat) (a_tried : Nat) (v_storeys : Int32) (v_jacks : Int32) (v_soft : Int32) (v_pairs : Int32) (v_bytes : Int32) (v_position : Int32) (v_tokenAt : Int32) (v_token : Int64) (v_digits : Int32) (v_number : Int32) (v_faultAt : Int32) (v_readMany : Int32) (v_readStoreys : Int32) (v_readPairs : Int32) (v_rows : Int32) (v_sights : Int32) (v_text : (Nat → Int32)) (v_read : (Nat → Int32)) (sz : Nat) (x1 : Int32) (post : Int32 → Int32 → Int32 → Int32 → Int64 → Int32 → Int32 → (Nat → Int32) → Prop) (hf : f_X5_isThere v_readStoreys v_bytes v_text v_tokenAt v_digits v_number v_token v_position v_faultAt v_read x1 post) : Met l yX5_isThere (Cond.code yX5_isThere cX5_isThere 2 (some .boolean) :: mx_WS) rm_X5_isThere (va_Pc [.ref a_t, .int x1] (mx_Pw E (w_X5_isThere E a_t a_storey a_wind a_pair a_text a_read a_now a_image a_isKept a_row a_sight a_ways a_ends a_tried v_storeys v_jacks v_soft v_pairs v_bytes v_position v_tokenAt v_token v_digits v_number v_faultAt v_readMany v_readStoreys v_readPairs v_rows v_sights v_text v_read) sz)) (va_Qi (fun (v : Int32) (u : Int32 × Int32 × Int32 × Int64 × Int32 × Int32 × (Nat → Int32)) => post v u.1 u.2.1 u.2.2.1 u.2.2.2.1 u.2.2.2.2.1 u.2.2.2.2.2.1 u.2.2.2.2.2.2) (fun u t => va_P E.1 vwCl (w_X5_isThere E a_t a_storey a_wind a_pair a_text a_read a_now a_image a_isKept a_row a_sight a_ways a_ends a_tried v_storeys v_jacks v_soft v_pairs v_bytes u.2.2.2.2.1 u.1 u.2.2.2.1 u.2.1 u.2.2.1 u.2.2.2.2.2.1 v_readMany v_readStoreys v_readPairs v_rows v_sights v_text u.2.2.2.2.2.2) t.heap) (va_A (w_X5_isThere E a_t a_storey a_wind a_pair a_text a_read a_now a_image a_isKept a_row a_sight a_ways a_ends a_tried v_storeys v_jacks v_soft v_pairs v_bytes v_position v_tokenAt v_token v_digits v_number v_faultAt v_readMany v_readStoreys v_readPairs v_rows v_sights v_text v_read) sz)) 0 0 (va_A (w_X5_isThere E a_t a_storey a_wind a_pair a_text a_read a_now a_image a_isKept a_row a_sight a_ways a_ends a_tried v_storeys v_jacks v_soft v_pairs v_bytes v_position v_tokenAt v_token v_digits v_number v_faultAt v_readMany v_readStoreys v_readPairs v_rows v_sights v_text v_read) sz) :=
  mx_metWz (by decide) rfl rfl (fun hB hP hD hA hRet ls hl => b_X5_isThere E a_t a_storey a_wind a_pair a_text a_read a_now a_image a_isKept a_row a_sight a_ways a_ends a_tried v_storeys v_jacks v_soft v_pairs v_bytes v_position v_tokenAt v_token v_digits v_number v_faultAt v_readMany v_readStoreys v_readPairs v_rows v_sights v_text v_read x1 post hB hP hD hA hRet hf ls hl)
def rm_X5_isStoreyLine : Room := { frames := 3, cells := 0, slots := 0, locals := 65 }
set_option maxHeartbeats 4000000 in
set_option maxRecDepth 100000 in
theorem b_X5_isStoreyLine {p : Program} {l : Launch} {e : Env} {s : State} {m : MethodId} {args : Array Value} {below : List Frame} {meth : Method} {c : Code} {Q : State → Prop} {A : Nat → Prop} (E : mx_E) (a_t : Nat) (a_storey : Nat) (a_wind : Nat) (a_pair : Nat) (a_text : Nat) (a_read : Nat) (a_now : Nat) (a_image : Nat) (a_isKept : Nat) (a_row : Nat) (a_sight : Nat) (a_ways : Nat) (a_ends : Nat) (a_tried : Nat) (v_storeys : Int32) (v_jacks : Int32) (v_soft : Int32) (v_pairs : Int32) (v_bytes : Int32) (v_position : Int32) (v_tokenAt : Int32) (v_token : Int64) (v_digits : Int32) (v_number : Int32) (v_faultAt : Int32) (v_readMany : Int32) (v_readStoreys : Int32) (v_readPairs : Int32) (v_rows : Int32) (v_sights : Int32) (v_text : (Nat → Int32)) (v_read : (Nat → Int32)) (x1 : Int32) (post : Int32 → Int32 → Int32 → Int32 → Int32 → Int64 → Int32 → Int32 → (Nat → Int32) → Prop) (hB : mx_B p m c cX5_isStoreyLine 2 s args RX5 E) (hP : va_P E.1 vwCl (w_X5_isStoreyLine E a_t a_storey a_wind a_pair a_text a_read a_now a_image a_isKept a_row a_sight a_ways a_ends a_tried v_storeys v_jacks v_soft v_pairs v_bytes v_position v_tokenAt v_token v_digits v_number v_faultAt v_readMany v_readStoreys v_readPairs v_rows v_sights v_text v_read) s.heap) (hD : va_D A (w_X5_isStoreyLine E a_t a_storey a_wind a_pair a_text a_read a_now a_image a_isKept a_row a_sight a_ways a_ends a_tried v_storeys v_jacks v_soft v_pairs v_bytes v_position v_tokenAt v_token v_digits v_number v_faultAt v_readMany v_readStoreys v_readPairs v_rows v_sights v_text v_read)) (hA : ∀ q : Nat, s.heap.size ≤ q → A q) (hRet : ∀ (v : Int32) (u : Int32 × Int32 × Int32 × Int32 × Int64 × Int32 × Int32 × (Nat → Int32)) (pc : Nat) (ls : Array Slot) (H : Heap) (locs : List Loc), decode cX5_isStoreyLine pc = .ok (.ireturn, 1) → (v = 0 ∨ v = 1) → post v u.1 u.2.1 u.2.2.1 u.2.2.2.1 u.2.2.2.2.1 u.2.2.2.2.2.1 u.2.2.2.2.2.2.1 u.2.2.2.2.2.2.2 → va_P E.1 vwCl (w_X5_isStoreyLine E a_t a_storey a_wind a_pair a_text a_read a_now a_image a_isKept a_row a_sight a_ways a_ends a_tried v_storeys v_jacks v_soft v_pairs v_bytes u.2.2.2.2.2.1 u.2.1 u.2.2.2.2.1 u.2.2.1 u.2.2.2.1 u.2.2.2.2.2.2.1 v_readMany u.1 v_readPairs v_rows v_sights v_text u.2.2.2.2.2.2.2) H → va_S A s.heap H locs → W p l e rm_X5_isStoreyLine s m args below meth c H locs 0 0 Q (F0 m pc ls [.int v])) (hf : f_X5_isStoreyLine v_bytes v_text v_readStoreys v_tokenAt v_digits v_number v_token v_position v_faultAt v_read x1 post) (ls : Array Slot) (hl : lv_has ls 2 [(0, .ref a_t), (1, .int x1)]) : W p l e rm_X5_isStoreyLine s m args below meth c s.heap [] 0 0 Q (F0 m 0 ls []) := by
  have hx := hB.x
  have hb := hB.b
  have hS : va_S A s.heap s.heap [] := va_S.rf
  obtain ⟨H, locs, eH, eL⟩ : ∃ (H : Heap) (locs : List Loc), H = s.heap ∧ locs = [] := ⟨_, _, rfl, rfl⟩
  rw [← eH] at hP
  have hS : va_S A s.heap H locs := by rw [eH, eL]; exact hS
  show W p l e rm_X5_isStoreyLine s m args below meth c s.heap [] 0 0 Q (F0 m 0 ls [])
  rw [← eH, ← eL]
  refine lv_aload_n hx hb dX5_isStoreyLine_0 rfl (lv_at hl 0 rfl) ?_
  refine gf_X5_107 hB hP 0 rfl rfl dX5_isStoreyLine_1 ?_
  refine lv_bipush hx hb dX5_isStoreyLine_4 kc_b_8 ?_
  refine lv_icmp_ne (tgt := 14) hx hb dX5_isStoreyLine_6 (by decide) (fun c6 => ?_) (fun c6 => ?_)
  · have hf := hf.1 c6
    refine lv_aload_n hx hb dX5_isStoreyLine_14 rfl (lv_at hl 0 rfl) ?_
    refine lv_dup hx hb dX5_isStoreyLine_15 rfl ?_
    refine gf_X5_107 hB hP 0 rfl rfl dX5_isStoreyLine_16 ?_
    refine lv_iconst hx hb dX5_isStoreyLine_19 kc_i_1 ?_
    refine lv_iadd hx hb dX5_isStoreyLine_20 ?_
    refine pf_X5_107 hB hP hD hS 0 rfl (Nat.le_of_ble_eq_true rfl) dX5_isStoreyLine_21 (w_X5_isStoreyLine E a_t a_storey a_wind a_pair a_text a_read a_now a_image a_isKept a_row a_sight a_ways a_ends a_tried v_storeys v_jacks v_soft v_pairs v_bytes v_position v_tokenAt v_token v_digits v_number v_faultAt v_readMany (v_readStoreys + 1) v_readPairs v_rows v_sights v_text v_read) rfl (fun H locs hP hD hS => ?_)
    refine lv_aload_n hx hb dX5_isStoreyLine_24 rfl (lv_at hl 0 rfl) ?_
    refine lv_iload_n hx hb dX5_isStoreyLine_25 rfl (lv_at hl 1 rfl) ?_
    refine lv_iconst hx hb dX5_isStoreyLine_26 kc_i_1 ?_
    refine lv_iadd hx hb dX5_isStoreyLine_27 ?_
    refine lv_iconst hx hb dX5_isStoreyLine_28 kc_i_1 ?_
    refine lv_bipush hx hb dX5_isStoreyLine_29 kc_b_99 ?_
    refine mx_wi (mx_runV (As := [.int (x1 + 1), .int 1, .int 99]) (rest := []) hB (c_X5_isNumber l E a_t a_storey a_wind a_pair a_text a_read a_now a_image a_isKept a_row a_sight a_ways a_ends a_tried v_storeys v_jacks v_soft v_pairs v_bytes v_position v_tokenAt v_token v_digits v_number v_faultAt v_readMany (v_readStoreys + 1) v_readPairs v_rows v_sights v_text v_read H.size (x1 + 1) 1 99 _ hf) sB_X5_isNumber sV_X5_isNumber wml_X5_110 rfl (mx_pwV hB hP hD [0, 1, 2] (by decide) rfl rfl 5 rfl rfl rfl) hl.1 rfl (Nat.le_of_ble_eq_true rfl) dX5_isStoreyLine_31 ⟨Nat.zero_le _, Nat.zero_le _⟩) hP hD hS hA [0, 1, 2] [] 3 rfl (fun u => w_X5_isStoreyLine E a_t a_storey a_wind a_pair a_text a_read a_now a_image a_isKept a_row a_sight a_ways a_ends a_tried v_storeys v_jacks v_soft v_pairs v_bytes u.2.2.2.2.1 u.1 u.2.2.2.1 u.2.1 u.2.2.1 u.2.2.2.2.2.1 v_readMany (v_readStoreys + 1) v_readPairs v_rows v_sights v_text u.2.2.2.2.2.2) (fun _ => rfl) (by decide) (fun _ => rfl) (fun _ => rfl) rfl (fun _ => rfl) (fun r1 u H locs hf hP hD hS => ?_)
    obtain ⟨u2, u3, u4, u5, u6, u7, u8⟩ := u
    have hP : va_P E.1 vwCl (w_X5_isStoreyLine E a_t a_storey a_wind a_pair a_text a_read a_now a_image a_isKept a_row a_sight a_ways a_ends a_tried v_storeys v_jacks v_soft v_pairs v_bytes u6 u2 u5 u3 u4 u7 v_readMany (v_readStoreys + 1) v_readPairs v_rows v_sights v_text u8) H := hP
    have hD : va_D A (w_X5_isStoreyLine E a_t a_storey a_wind a_pair a_text a_read a_now a_image a_isKept a_row a_sight a_ways a_ends a_tried v_storeys v_jacks v_soft v_pairs v_bytes u6 u2 u5 u3 u4 u7 v_readMany (v_readStoreys + 1) v_readPairs v_rows v_sights v_text u8) := hD
    refine lv_if_eq (tgt := 68) hx hb dX5_isStoreyLine_34 (by decide) (fun c34 => ?_) (fun c34 => ?_)
    · have hf := hf.1 c34
      refine lv_iconst hx hb dX5_isStoreyLine_68 kc_i_0 ?_
      exact hRet 0 (v_readStoreys + 1, u2, u3, u4, u5, u6, u7, u8) 69 ls H locs dX5_isStoreyLine_69 (Or.inl rfl) hf hP hS
    · have hf := hf.2 c34
      refine lv_aload_n hx hb dX5_isStoreyLine_37 rfl (lv_at hl 0 rfl) ?_
      refine lv_iload_n hx hb dX5_isStoreyLine_38 rfl (lv_at hl 1 rfl) ?_
      refine lv_iconst hx hb dX5_isStoreyLine_39 kc_i_2 ?_
      refine lv_iadd hx hb dX5_isStoreyLine_40 ?_
      refine lv_iconst hx hb dX5_isStoreyLine_41 kc_i_0 ?_
      refine lv_sipush hx hb dX5_isStoreyLine_42 kc_s_999 ?_
      refine mx_wi (mx_runV (As := [.int (x1 + 2), .int 0, .int 999]) (rest := []) hB (c_X5_isNumber l E a_t a_storey a_wind a_pair a_text a_read a_now a_image a_isKept a_row a_sight a_ways a_ends a_tried v_storeys v_jacks v_soft v_pairs v_bytes u6 u2 u5 u3 u4 u7 v_readMany (v_readStoreys + 1) v_readPairs v_rows v_sights v_text u8 H.size (x1 + 2) 0 999 _ hf) sB_X5_isNumber sV_X5_isNumber wml_X5_110 rfl (mx_pwV hB hP hD [0, 1, 2] (by decide) rfl rfl 5 rfl rfl rfl) hl.1 rfl (Nat.le_of_ble_eq_true rfl) dX5_isStoreyLine_45 ⟨Nat.zero_le _, Nat.zero_le _⟩) hP hD hS hA [0, 1, 2] [] 3 rfl (fun u => w_X5_isStoreyLine E a_t a_storey a_wind a_pair a_text a_read a_now a_image a_isKept a_row a_sight a_ways a_ends a_tried v_storeys v_jacks v_soft v_pairs v_bytes u.2.2.2.2.1 u.1 u.2.2.2.1 u.2.1 u.2.2.1 u.2.2.2.2.2.1 v_readMany (v_readStoreys + 1) v_readPairs v_rows v_sights v_text u.2.2.2.2.2.2) (fun _ => rfl) (by decide) (fun _ => rfl) (fun _ => rfl) rfl (fun _ => rfl) (fun r9 u H locs hf hP hD hS => ?_)
      obtain ⟨u10, u11, u12, u13, u14, u15, u16⟩ := u
      have hP : va_P E.1 vwCl (w_X5_isStoreyLine E a_t a_storey a_wind a_pair a_text a_read a_now a_image a_isKept a_row a_sight a_ways a_ends a_tried v_storeys v_jacks v_soft v_pairs v_bytes u14 u10 u13 u11 u12 u15 v_readMany (v_readStoreys + 1) v_readPairs v_rows v_sights v_text u16) H := hP
      have hD : va_D A (w_X5_isStoreyLine E a_t a_storey a_wind a_pair a_text a_read a_now a_image a_isKept a_row a_sight a_ways a_ends a_tried v_storeys v_jacks v_soft v_pairs v_bytes u14 u10 u13 u11 u12 u15 v_readMany (v_readStoreys + 1) v_readPairs v_rows v_sights v_text u16) := hD
      refine lv_if_eq (tgt := 68) hx hb dX5_isStoreyLine_48 (by decide) (fun c48 => ?_) (fun c48 => ?_)
      · have hf := hf.1 c48
        refine lv_iconst hx hb dX5_isStoreyLine_68 kc_i_0 ?_
        exact hRet 0 (v_readStoreys + 1, u10, u11, u12, u13, u14, u15, u16) 69 ls H locs dX5_isStoreyLine_69 (Or.inl rfl) hf hP hS
      · have hf := hf.2 c48
        refine lv_aload_n hx hb dX5_isStoreyLine_51 rfl (lv_at hl 0 rfl) ?_
        refine lv_iload_n hx hb dX5_isStoreyLine_52 rfl (lv_at hl 1 rfl) ?_
        refine lv_iconst hx hb dX5_isStoreyLine_53 kc_i_3 ?_
        refine lv_iadd hx hb dX5_isStoreyLine_54 ?_
        refine lv_iconst hx hb dX5_isStoreyLine_55 kc_i_1 ?_
        refine lv_bipush hx hb dX5_isStoreyLine_56 kc_b_9 ?_
        refine mx_wi (mx_runV (As := [.int (x1 + 3), .int 1, .int 9]) (rest := []) hB (c_X5_isNumber l E a_t a_storey a_wind a_pair a_text a_read a_now a_image a_isKept a_row a_sight a_ways a_ends a_tried v_storeys v_jacks v_soft v_pairs v_bytes u14 u10 u13 u11 u12 u15 v_readMany (v_readStoreys + 1) v_readPairs v_rows v_sights v_text u16 H.size (x1 + 3) 1 9 _ hf) sB_X5_isNumber sV_X5_isNumber wml_X5_110 rfl (mx_pwV hB hP hD [0, 1, 2] (by decide) rfl rfl 5 rfl rfl rfl) hl.1 rfl (Nat.le_of_ble_eq_true rfl) dX5_isStoreyLine_58 ⟨Nat.zero_le _, Nat.zero_le _⟩) hP hD hS hA [0, 1, 2] [] 3 rfl (fun u => w_X5_isStoreyLine E a_t a_storey a_wind a_pair a_text a_read a_now a_image a_isKept a_row a_sight a_ways a_ends a_tried v_storeys v_jacks v_soft v_pairs v_bytes u.2.2.2.2.1 u.1 u.2.2.2.1 u.2.1 u.2.2.1 u.2.2.2.2.2.1 v_readMany (v_readStoreys + 1) v_readPairs v_rows v_sights v_text u.2.2.2.2.2.2) (fun _ => rfl) (by decide) (fun _ => rfl) (fun _ => rfl) rfl (fun _ => rfl) (fun r17 u H locs hf hP hD hS => ?_)
        obtain ⟨u18, u19, u20, u21, u22, u23, u24⟩ := u
        have hP : va_P E.1 vwCl (w_X5_isStoreyLine E a_t a_storey a_wind a_pair a_text a_read a_now a_image a_isKept a_row a_sight a_ways a_ends a_tried v_storeys v_jacks v_soft v_pairs v_bytes u22 u18 u21 u19 u20 u23 v_readMany (v_readStoreys + 1) v_readPairs v_rows v_sights v_text u24) H := hP
        have hD : va_D A (w_X5_isStoreyLine E a_t a_storey a_wind a_pair a_text a_read a_now a_image a_isKept a_row a_sight a_ways a_ends a_tried v_storeys v_jacks v_soft v_pairs v_bytes u22 u18 u21 u19 u20 u23 v_readMany (v_readStoreys + 1) v_readPairs v_rows v_sights v_text u24) := hD
        refine lv_if_eq (tgt := 68) hx hb dX5_isStoreyLine_61 (by decide) (fun c61 => ?_) (fun c61 => ?_)
        · have hf := hf.1 c61
          refine lv_iconst hx hb dX5_isStoreyLine_68 kc_i_0 ?_
          exact hRet 0 (v_readStoreys + 1, u18, u19, u20, u21, u22, u23, u24) 69 ls H locs dX5_isStoreyLine_69 (Or.inl rfl) hf hP hS
        · have hf := hf.2 c61
          refine lv_iconst hx hb dX5_isStoreyLine_64 kc_i_1 ?_
          refine lv_goto (tgt := 69) hx hb dX5_isStoreyLine_65 (by decide) ?_
          exact hRet 1 (v_readStoreys + 1, u18, u19, u20, u21, u22, u23, u24) 69 ls H locs dX5_isStoreyLine_69 (Or.inr rfl) hf hP hS
  · have hf := hf.2 c6
    refine lv_aload_n hx hb dX5_isStoreyLine_9 rfl (lv_at hl 0 rfl) ?_
    refine mx_wi (mx_runV (As := []) (rest := []) hB (c_X5_fails l E a_t a_storey a_wind a_pair a_text a_read a_now a_image a_isKept a_row a_sight a_ways a_ends a_tried v_storeys v_jacks v_soft v_pairs v_bytes v_position v_tokenAt v_token v_digits v_number v_faultAt v_readMany v_readStoreys v_readPairs v_rows v_sights H.size  _ hf) sB_X5_fails sV_X5_fails wml_X5_103 rfl (mx_pwV hB hP hD [0] (by decide) rfl rfl 5 rfl rfl rfl) hl.1 rfl (Nat.le_of_ble_eq_true rfl) dX5_isStoreyLine_10 ⟨Nat.zero_le _, Nat.zero_le _⟩) hP hD hS hA [0] [1, 2] 3 rfl (fun u => w_X5_isStoreyLine E a_t a_storey a_wind a_pair a_text a_read a_now a_image a_isKept a_row a_sight a_ways a_ends a_tried v_storeys v_jacks v_soft v_pairs v_bytes v_position v_tokenAt v_token v_digits v_number u v_readMany v_readStoreys v_readPairs v_rows v_sights v_text v_read) (fun _ => rfl) (by decide) (fun _ => rfl) (fun _ => rfl) rfl (fun _ => rfl) (fun r25 u H locs hf hP hD hS => ?_)
    obtain ⟨u26, rfl⟩ : ∃ z, z = u := ⟨_, rfl⟩
    have hP : va_P E.1 vwCl (w_X5_isStoreyLine E a_t a_storey a_wind a_pair a_text a_read a_now a_image a_isKept a_row a_sight a_ways a_ends a_tried v_storeys v_jacks v_soft v_pairs v_bytes v_position v_tokenAt v_token v_digits v_number u26 v_readMany v_readStoreys v_readPairs v_rows v_sights v_text v_read) H := hP
    have hD : va_D A (w_X5_isStoreyLine E a_t a_storey a_wind a_pair a_text a_read a_now a_image a_isKept a_row a_sight a_ways a_ends a_tried v_storeys v_jacks v_soft v_pairs v_bytes v_position v_tokenAt v_token v_digits v_number u26 v_readMany v_readStoreys v_readPairs v_rows v_sights v_text v_read) := hD
    obtain ⟨h01, hf⟩ := hf
    exact hRet r25 (v_readStoreys, v_tokenAt, v_digits, v_number, v_token, v_position, u26, v_read) 13 ls H locs dX5_isStoreyLine_13 h01 hf hP hS
theorem c_X5_isStoreyLine (l : Launch) (E : mx_E) (a_t : Nat) (a_storey : Nat) (a_wind : Nat) (a_pair : Nat) (a_text : Nat) (a_read : Nat) (a_now : Nat) (a_image : Nat) (a_isKept : Nat) (a_row : Nat) (a_sight : Nat) (a_ways : Nat) (a_ends : Nat) (a_tried : Nat) (v_storeys : Int32) (v_jacks : Int32) (v_soft : Int32) (v_pairs : Int32) (v_bytes : Int32) (v_position : Int32) (v_tokenAt : Int32) (v_token : Int64) (v_digits : Int32) (v_number : Int32) (v_faultAt : Int32) (v_readMany : Int32) (v_readStoreys : Int32) (v_readPairs : Int32) (v_rows : Int32) (v_sights : Int32) (v_text : (Nat → Int32)) (v_read : (Nat → Int32)) (sz : Nat) (x1 : Int32) (post : Int32 → Int32 → Int32 → Int32 → Int32 → Int64 → Int32 → Int32 → (Nat → Int32) → Prop) (hf : f_X5_isStoreyLine v_bytes v_text v_readStoreys v_tokenAt v_digits v_number v_token v_position v_faultAt v_read x1 post) : Met l yX5_isStoreyLine (Cond.code yX5_isStoreyLine cX5_isStoreyLine 2 (some .boolean) :: mx_WS) rm_X5_isStoreyLine (va_Pc [.ref a_t, .int x1] (mx_Pw E (w_X5_isStoreyLine E a_t a_storey a_wind a_pair a_text a_read a_now a_image a_isKept a_row a_sight a_ways a_ends a_tried v_storeys v_jacks v_soft v_pairs v_bytes v_position v_tokenAt v_token v_digits v_number v_faultAt v_readMany v_readStoreys v_readPairs v_rows v_sights v_text v_read) sz)) (va_Qi (fun (v : Int32) (u : Int32 × Int32 × Int32 × Int32 × Int64 × Int32 × Int32 × (Nat → Int32)) => post v u.1 u.2.1 u.2.2.1 u.2.2.2.1 u.2.2.2.2.1 u.2.2.2.2.2.1 u.2.2.2.2.2.2.1 u.2.2.2.2.2.2.2) (fun u t => va_P E.1 vwCl (w_X5_isStoreyLine E a_t a_storey a_wind a_pair a_text a_read a_now a_image a_isKept a_row a_sight a_ways a_ends a_tried v_storeys v_jacks v_soft v_pairs v_bytes u.2.2.2.2.2.1 u.2.1 u.2.2.2.2.1 u.2.2.1 u.2.2.2.1 u.2.2.2.2.2.2.1 v_readMany u.1 v_readPairs v_rows v_sights v_text u.2.2.2.2.2.2.2) t.heap) (va_A (w_X5_isStoreyLine E a_t a_storey a_wind a_pair a_text a_read a_now a_image a_isKept a_row a_sight a_ways a_ends a_tried v_storeys v_jacks v_soft v_pairs v_bytes v_position v_tokenAt v_token v_digits v_number v_faultAt v_readMany v_readStoreys v_readPairs v_rows v_sights v_text v_read) sz)) 0 0 (va_A (w_X5_isStoreyLine E a_t a_storey a_wind a_pair a_text a_read a_now a_image a_isKept a_row a_sight a_ways a_ends a_tried v_storeys v_jacks v_soft v_pairs v_bytes v_position v_tokenAt v_token v_digits v_number v_faultAt v_readMany v_readStoreys v_readPairs v_rows v_sights v_text v_read) sz) :=
  mx_metWz (by decide) rfl rfl (fun hB hP hD hA hRet ls hl => b_X5_isStoreyLine E a_t a_storey a_wind a_pair a_text a_read a_now a_image a_isKept a_row a_sight a_ways a_ends a_tried v_storeys v_jacks v_soft v_pairs v_bytes v_position v_tokenAt v_token v_digits v_number v_faultAt v_readMany v_readStoreys v_readPairs v_rows v_sights v_text v_read x1 post hB hP hD hA hRet hf ls hl)
def rm_X5_isPair : Room := { frames := 4, cells := 0, slots := 0, locals := 86 }
set_option maxHeartbeats 4000000 in
set_option maxRecDepth 100000 in
theorem b_X5_isPair {p : Program} {l : Launch} {e : Env} {s : State} {m : MethodId} {args : Array Value} {below : List Frame} {meth : Method} {c : Code} {Q : State → Prop} {A : Nat → Prop} (E : mx_E) (a_t : Nat) (a_storey : Nat) (a_wind : Nat) (a_pair : Nat) (a_text : Nat) (a_read : Nat) (a_now : Nat) (a_image : Nat) (a_isKept : Nat) (a_row : Nat) (a_sight : Nat) (a_ways : Nat) (a_ends : Nat) (a_tried : Nat) (v_storeys : Int32) (v_jacks : Int32) (v_soft : Int32) (v_pairs : Int32) (v_bytes : Int32) (v_position : Int32) (v_tokenAt : Int32) (v_token : Int64) (v_digits : Int32) (v_number : Int32) (v_faultAt : Int32) (v_readMany : Int32) (v_readStoreys : Int32) (v_readPairs : Int32) (v_rows : Int32) (v_sights : Int32) (v_text : (Nat → Int32)) (v_read : (Nat → Int32)) (x1 : Int32) (post : Int32 → Int32 → Int32 → Int32 → Int32 → Int64 → Int32 → Int32 → (Nat → Int32) → Prop) (hB : mx_B p m c cX5_isPair 2 s args RX5 E) (hP : va_P E.1 vwCl (w_X5_isPair E a_t a_storey a_wind a_pair a_text a_read a_now a_image a_isKept a_row a_sight a_ways a_ends a_tried v_storeys v_jacks v_soft v_pairs v_bytes v_position v_tokenAt v_token v_digits v_number v_faultAt v_readMany v_readStoreys v_readPairs v_rows v_sights v_text v_read) s.heap) (hD : va_D A (w_X5_isPair E a_t a_storey a_wind a_pair a_text a_read a_now a_image a_isKept a_row a_sight a_ways a_ends a_tried v_storeys v_jacks v_soft v_pairs v_bytes v_position v_tokenAt v_token v_digits v_number v_faultAt v_readMany v_readStoreys v_readPairs v_rows v_sights v_text v_read)) (hA : ∀ q : Nat, s.heap.size ≤ q → A q) (hRet : ∀ (v : Int32) (u : Int32 × Int32 × Int32 × Int32 × Int64 × Int32 × Int32 × (Nat → Int32)) (pc : Nat) (ls : Array Slot) (H : Heap) (locs : List Loc), decode cX5_isPair pc = .ok (.ireturn, 1) → (v = 0 ∨ v = 1) → post v u.1 u.2.1 u.2.2.1 u.2.2.2.1 u.2.2.2.2.1 u.2.2.2.2.2.1 u.2.2.2.2.2.2.1 u.2.2.2.2.2.2.2 → va_P E.1 vwCl (w_X5_isPair E a_t a_storey a_wind a_pair a_text a_read a_now a_image a_isKept a_row a_sight a_ways a_ends a_tried v_storeys v_jacks v_soft v_pairs v_bytes u.2.2.2.2.2.1 u.2.1 u.2.2.2.2.1 u.2.2.1 u.2.2.2.1 u.2.2.2.2.2.2.1 v_readMany v_readStoreys u.1 v_rows v_sights v_text u.2.2.2.2.2.2.2) H → va_S A s.heap H locs → W p l e rm_X5_isPair s m args below meth c H locs 0 0 Q (F0 m pc ls [.int v])) (hf : f_X5_isPair v_readStoreys v_bytes v_text v_readPairs v_tokenAt v_digits v_number v_token v_position v_faultAt v_read x1 post) (ls : Array Slot) (hl : lv_has ls 2 [(0, .ref a_t), (1, .int x1)]) : W p l e rm_X5_isPair s m args below meth c s.heap [] 0 0 Q (F0 m 0 ls []) := by
  have hx := hB.x
  have hb := hB.b
  have hS : va_S A s.heap s.heap [] := va_S.rf
  have J_72 : ∀ (j72_v_readPairs : Int32) (j72_v_tokenAt : Int32) (j72_v_digits : Int32) (j72_v_number : Int32) (j72_v_token : Int64) (j72_v_position : Int32) (j72_v_faultAt : Int32) (j72_v_read : (Nat → Int32)) (ls : Array Slot) (H : Heap) (locs : List Loc), f_X5_isPair_72 v_readStoreys v_bytes v_text post j72_v_readPairs j72_v_tokenAt j72_v_digits j72_v_number j72_v_token j72_v_position j72_v_faultAt j72_v_read → lv_has ls 2 [] → va_P E.1 vwCl (w_X5_isPair E a_t a_storey a_wind a_pair a_text a_read a_now a_image a_isKept a_row a_sight a_ways a_ends a_tried v_storeys v_jacks v_soft v_pairs v_bytes j72_v_position j72_v_tokenAt j72_v_token j72_v_digits j72_v_number j72_v_faultAt v_readMany v_readStoreys j72_v_readPairs v_rows v_sights v_text j72_v_read) H → va_D A (w_X5_isPair E a_t a_storey a_wind a_pair a_text a_read a_now a_image a_isKept a_row a_sight a_ways a_ends a_tried v_storeys v_jacks v_soft v_pairs v_bytes j72_v_position j72_v_tokenAt j72_v_token j72_v_digits j72_v_number j72_v_faultAt v_readMany v_readStoreys j72_v_readPairs v_rows v_sights v_text j72_v_read) → va_S A s.heap H locs → W p l e rm_X5_isPair s m args below meth c H locs 0 0 Q (F0 m 72 ls []) := by
    intro j72_v_readPairs j72_v_tokenAt j72_v_digits j72_v_number j72_v_token j72_v_position j72_v_faultAt j72_v_read ls H locs hf hl hP hD hS
    refine lv_iconst hx hb dX5_isPair_72 kc_i_1 ?_
    refine lv_goto (tgt := 77) hx hb dX5_isPair_73 (by decide) ?_
    exact hRet 1 (j72_v_readPairs, j72_v_tokenAt, j72_v_digits, j72_v_number, j72_v_token, j72_v_position, j72_v_faultAt, j72_v_read) 77 ls H locs dX5_isPair_77 (Or.inr rfl) hf hP hS
  obtain ⟨H, locs, eH, eL⟩ : ∃ (H : Heap) (locs : List Loc), H = s.heap ∧ locs = [] := ⟨_, _, rfl, rfl⟩
  rw [← eH] at hP
  have hS : va_S A s.heap H locs := by rw [eH, eL]; exact hS
  show W p l e rm_X5_isPair s m args below meth c s.heap [] 0 0 Q (F0 m 0 ls [])
  rw [← eH, ← eL]
  refine lv_aload_n hx hb dX5_isPair_0 rfl (lv_at hl 0 rfl) ?_
  refine gf_X5_113 hB hP 0 rfl rfl dX5_isPair_1 ?_
  refine lv_bipush hx hb dX5_isPair_4 kc_b_8 ?_
  refine lv_icmp_ne (tgt := 14) hx hb dX5_isPair_6 (by decide) (fun c6 => ?_) (fun c6 => ?_)
  · have hf := hf.1 c6
    refine lv_aload_n hx hb dX5_isPair_14 rfl (lv_at hl 0 rfl) ?_
    refine lv_dup hx hb dX5_isPair_15 rfl ?_
    refine gf_X5_113 hB hP 0 rfl rfl dX5_isPair_16 ?_
    refine lv_iconst hx hb dX5_isPair_19 kc_i_1 ?_
    refine lv_iadd hx hb dX5_isPair_20 ?_
    refine pf_X5_113 hB hP hD hS 0 rfl (Nat.le_of_ble_eq_true rfl) dX5_isPair_21 (w_X5_isPair E a_t a_storey a_wind a_pair a_text a_read a_now a_image a_isKept a_row a_sight a_ways a_ends a_tried v_storeys v_jacks v_soft v_pairs v_bytes v_position v_tokenAt v_token v_digits v_number v_faultAt v_readMany v_readStoreys (v_readPairs + 1) v_rows v_sights v_text v_read) rfl (fun H locs hP hD hS => ?_)
    refine lv_aload_n hx hb dX5_isPair_24 rfl (lv_at hl 0 rfl) ?_
    refine lv_iload_n hx hb dX5_isPair_25 rfl (lv_at hl 1 rfl) ?_
    refine lv_iconst hx hb dX5_isPair_26 kc_i_1 ?_
    refine lv_iadd hx hb dX5_isPair_27 ?_
    refine mx_wi (mx_runV (As := [.int (x1 + 1)]) (rest := []) hB (c_X5_isThere l E a_t a_storey a_wind a_pair a_text a_read a_now a_image a_isKept a_row a_sight a_ways a_ends a_tried v_storeys v_jacks v_soft v_pairs v_bytes v_position v_tokenAt v_token v_digits v_number v_faultAt v_readMany v_readStoreys (v_readPairs + 1) v_rows v_sights v_text v_read H.size (x1 + 1) _ hf) sB_X5_isThere sV_X5_isThere wml_X5_116 rfl (mx_pwV hB hP hD [0, 1, 2] (by decide) rfl rfl 5 rfl rfl rfl) hl.1 rfl (Nat.le_of_ble_eq_true rfl) dX5_isPair_28 ⟨Nat.zero_le _, Nat.zero_le _⟩) hP hD hS hA [0, 1, 2] [] 3 rfl (fun u => w_X5_isPair E a_t a_storey a_wind a_pair a_text a_read a_now a_image a_isKept a_row a_sight a_ways a_ends a_tried v_storeys v_jacks v_soft v_pairs v_bytes u.2.2.2.2.1 u.1 u.2.2.2.1 u.2.1 u.2.2.1 u.2.2.2.2.2.1 v_readMany v_readStoreys (v_readPairs + 1) v_rows v_sights v_text u.2.2.2.2.2.2) (fun _ => rfl) (by decide) (fun _ => rfl) (fun _ => rfl) rfl (fun _ => rfl) (fun r1 u H locs hf hP hD hS => ?_)
    obtain ⟨u2, u3, u4, u5, u6, u7, u8⟩ := u
    have hP : va_P E.1 vwCl (w_X5_isPair E a_t a_storey a_wind a_pair a_text a_read a_now a_image a_isKept a_row a_sight a_ways a_ends a_tried v_storeys v_jacks v_soft v_pairs v_bytes u6 u2 u5 u3 u4 u7 v_readMany v_readStoreys (v_readPairs + 1) v_rows v_sights v_text u8) H := hP
    have hD : va_D A (w_X5_isPair E a_t a_storey a_wind a_pair a_text a_read a_now a_image a_isKept a_row a_sight a_ways a_ends a_tried v_storeys v_jacks v_soft v_pairs v_bytes u6 u2 u5 u3 u4 u7 v_readMany v_readStoreys (v_readPairs + 1) v_rows v_sights v_text u8) := hD
    refine lv_if_eq (tgt := 44) hx hb dX5_isPair_31 (by decide) (fun c31 => ?_) (fun c31 => ?_)
    · have hf := hf.1 c31
      refine lv_iconst hx hb dX5_isPair_44 kc_i_0 ?_
      exact hRet 0 (v_readPairs + 1, u2, u3, u4, u5, u6, u7, u8) 45 ls H locs dX5_isPair_45 (Or.inl rfl) hf hP hS
    · have hf := hf.2 c31
      refine lv_aload_n hx hb dX5_isPair_34 rfl (lv_at hl 0 rfl) ?_
      refine lv_iload_n hx hb dX5_isPair_35 rfl (lv_at hl 1 rfl) ?_
      refine lv_iconst hx hb dX5_isPair_36 kc_i_2 ?_
      refine lv_iadd hx hb dX5_isPair_37 ?_
      refine mx_wi (mx_runV (As := [.int (x1 + 2)]) (rest := []) hB (c_X5_isThere l E a_t a_storey a_wind a_pair a_text a_read a_now a_image a_isKept a_row a_sight a_ways a_ends a_tried v_storeys v_jacks v_soft v_pairs v_bytes u6 u2 u5 u3 u4 u7 v_readMany v_readStoreys (v_readPairs + 1) v_rows v_sights v_text u8 H.size (x1 + 2) _ hf) sB_X5_isThere sV_X5_isThere wml_X5_116 rfl (mx_pwV hB hP hD [0, 1, 2] (by decide) rfl rfl 5 rfl rfl rfl) hl.1 rfl (Nat.le_of_ble_eq_true rfl) dX5_isPair_38 ⟨Nat.zero_le _, Nat.zero_le _⟩) hP hD hS hA [0, 1, 2] [] 3 rfl (fun u => w_X5_isPair E a_t a_storey a_wind a_pair a_text a_read a_now a_image a_isKept a_row a_sight a_ways a_ends a_tried v_storeys v_jacks v_soft v_pairs v_bytes u.2.2.2.2.1 u.1 u.2.2.2.1 u.2.1 u.2.2.1 u.2.2.2.2.2.1 v_readMany v_readStoreys (v_readPairs + 1) v_rows v_sights v_text u.2.2.2.2.2.2) (fun _ => rfl) (by decide) (fun _ => rfl) (fun _ => rfl) rfl (fun _ => rfl) (fun r9 u H locs hf hP hD hS => ?_)
      obtain ⟨u10, u11, u12, u13, u14, u15, u16⟩ := u
      have hP : va_P E.1 vwCl (w_X5_isPair E a_t a_storey a_wind a_pair a_text a_read a_now a_image a_isKept a_row a_sight a_ways a_ends a_tried v_storeys v_jacks v_soft v_pairs v_bytes u14 u10 u13 u11 u12 u15 v_readMany v_readStoreys (v_readPairs + 1) v_rows v_sights v_text u16) H := hP
      have hD : va_D A (w_X5_isPair E a_t a_storey a_wind a_pair a_text a_read a_now a_image a_isKept a_row a_sight a_ways a_ends a_tried v_storeys v_jacks v_soft v_pairs v_bytes u14 u10 u13 u11 u12 u15 v_readMany v_readStoreys (v_readPairs + 1) v_rows v_sights v_text u16) := hD
      refine lv_if_ne (tgt := 46) hx hb dX5_isPair_41 (by decide) (fun c41 => ?_) (fun c41 => ?_)
      · have hf := hf.1 c41
        refine lv_aload_n hx hb dX5_isPair_46 rfl (lv_at hl 0 rfl) ?_
        refine gf_X5_29 hB hP 0 rfl rfl dX5_isPair_47 ?_
        refine lv_iload_n hx hb dX5_isPair_50 rfl (lv_at hl 1 rfl) ?_
        refine lv_iconst hx hb dX5_isPair_51 kc_i_1 ?_
        refine lv_iadd hx hb dX5_isPair_52 ?_
        obtain ⟨h_in, hf⟩ := hf
        refine va_iald hx hb hB.K hP 2 0 rfl rfl h_in dX5_isPair_53 ?_
        refine lv_aload_n hx hb dX5_isPair_54 rfl (lv_at hl 0 rfl) ?_
        refine gf_X5_29 hB hP 0 rfl rfl dX5_isPair_55 ?_
        refine lv_iload_n hx hb dX5_isPair_58 rfl (lv_at hl 1 rfl) ?_
        refine lv_iconst hx hb dX5_isPair_59 kc_i_2 ?_
        refine lv_iadd hx hb dX5_isPair_60 ?_
        obtain ⟨h_in, hf⟩ := hf
        refine va_iald hx hb hB.K hP 2 0 rfl rfl h_in dX5_isPair_61 ?_
        refine lv_icmp_ne (tgt := 72) hx hb dX5_isPair_62 (by decide) (fun c62 => ?_) (fun c62 => ?_)
        · have hf := hf.1 c62
          exact J_72 (v_readPairs + 1) u10 u11 u12 u13 u14 u15 u16 ls H locs hf (lv_sub hl [] rfl) hP hD hS
        · have hf := hf.2 c62
          refine lv_aload_n hx hb dX5_isPair_65 rfl (lv_at hl 0 rfl) ?_
          refine mx_wi (mx_runV (As := []) (rest := []) hB (c_X5_fails l E a_t a_storey a_wind a_pair a_text a_read a_now a_image a_isKept a_row a_sight a_ways a_ends a_tried v_storeys v_jacks v_soft v_pairs v_bytes u14 u10 u13 u11 u12 u15 v_readMany v_readStoreys (v_readPairs + 1) v_rows v_sights H.size  _ hf) sB_X5_fails sV_X5_fails wml_X5_103 rfl (mx_pwV hB hP hD [0] (by decide) rfl rfl 5 rfl rfl rfl) hl.1 rfl (Nat.le_of_ble_eq_true rfl) dX5_isPair_66 ⟨Nat.zero_le _, Nat.zero_le _⟩) hP hD hS hA [0] [1, 2] 3 rfl (fun u => w_X5_isPair E a_t a_storey a_wind a_pair a_text a_read a_now a_image a_isKept a_row a_sight a_ways a_ends a_tried v_storeys v_jacks v_soft v_pairs v_bytes u14 u10 u13 u11 u12 u v_readMany v_readStoreys (v_readPairs + 1) v_rows v_sights v_text u16) (fun _ => rfl) (by decide) (fun _ => rfl) (fun _ => rfl) rfl (fun _ => rfl) (fun r17 u H locs hf hP hD hS => ?_)
          obtain ⟨u18, rfl⟩ : ∃ z, z = u := ⟨_, rfl⟩
          have hP : va_P E.1 vwCl (w_X5_isPair E a_t a_storey a_wind a_pair a_text a_read a_now a_image a_isKept a_row a_sight a_ways a_ends a_tried v_storeys v_jacks v_soft v_pairs v_bytes u14 u10 u13 u11 u12 u18 v_readMany v_readStoreys (v_readPairs + 1) v_rows v_sights v_text u16) H := hP
          have hD : va_D A (w_X5_isPair E a_t a_storey a_wind a_pair a_text a_read a_now a_image a_isKept a_row a_sight a_ways a_ends a_tried v_storeys v_jacks v_soft v_pairs v_bytes u14 u10 u13 u11 u12 u18 v_readMany v_readStoreys (v_readPairs + 1) v_rows v_sights v_text u16) := hD
          refine lv_if_eq (tgt := 76) hx hb dX5_isPair_69 (by decide) (fun c69 => ?_) (fun c69 => ?_)
          · have hf := hf.1 c69
            refine lv_iconst hx hb dX5_isPair_76 kc_i_0 ?_
            exact hRet 0 (v_readPairs + 1, u10, u11, u12, u13, u14, u18, u16) 77 ls H locs dX5_isPair_77 (Or.inl rfl) hf hP hS
          · have hf := hf.2 c69
            exact J_72 (v_readPairs + 1) u10 u11 u12 u13 u14 u18 u16 ls H locs hf (lv_sub hl [] rfl) hP hD hS
      · have hf := hf.2 c41
        refine lv_iconst hx hb dX5_isPair_44 kc_i_0 ?_
        exact hRet 0 (v_readPairs + 1, u10, u11, u12, u13, u14, u15, u16) 45 ls H locs dX5_isPair_45 (Or.inl rfl) hf hP hS
  · have hf := hf.2 c6
    refine lv_aload_n hx hb dX5_isPair_9 rfl (lv_at hl 0 rfl) ?_
    refine mx_wi (mx_runV (As := []) (rest := []) hB (c_X5_fails l E a_t a_storey a_wind a_pair a_text a_read a_now a_image a_isKept a_row a_sight a_ways a_ends a_tried v_storeys v_jacks v_soft v_pairs v_bytes v_position v_tokenAt v_token v_digits v_number v_faultAt v_readMany v_readStoreys v_readPairs v_rows v_sights H.size  _ hf) sB_X5_fails sV_X5_fails wml_X5_103 rfl (mx_pwV hB hP hD [0] (by decide) rfl rfl 5 rfl rfl rfl) hl.1 rfl (Nat.le_of_ble_eq_true rfl) dX5_isPair_10 ⟨Nat.zero_le _, Nat.zero_le _⟩) hP hD hS hA [0] [1, 2] 3 rfl (fun u => w_X5_isPair E a_t a_storey a_wind a_pair a_text a_read a_now a_image a_isKept a_row a_sight a_ways a_ends a_tried v_storeys v_jacks v_soft v_pairs v_bytes v_position v_tokenAt v_token v_digits v_number u v_readMany v_readStoreys v_readPairs v_rows v_sights v_text v_read) (fun _ => rfl) (by decide) (fun _ => rfl) (fun _ => rfl) rfl (fun _ => rfl) (fun r19 u H locs hf hP hD hS => ?_)
    obtain ⟨u20, rfl⟩ : ∃ z, z = u := ⟨_, rfl⟩
    have hP : va_P E.1 vwCl (w_X5_isPair E a_t a_storey a_wind a_pair a_text a_read a_now a_image a_isKept a_row a_sight a_ways a_ends a_tried v_storeys v_jacks v_soft v_pairs v_bytes v_position v_tokenAt v_token v_digits v_number u20 v_readMany v_readStoreys v_readPairs v_rows v_sights v_text v_read) H := hP
    have hD : va_D A (w_X5_isPair E a_t a_storey a_wind a_pair a_text a_read a_now a_image a_isKept a_row a_sight a_ways a_ends a_tried v_storeys v_jacks v_soft v_pairs v_bytes v_position v_tokenAt v_token v_digits v_number u20 v_readMany v_readStoreys v_readPairs v_rows v_sights v_text v_read) := hD
    obtain ⟨h01, hf⟩ := hf
    exact hRet r19 (v_readPairs, v_tokenAt, v_digits, v_number, v_token, v_position, u20, v_read) 13 ls H locs dX5_isPair_13 h01 hf hP hS
theorem c_X5_isPair (l : Launch) (E : mx_E) (a_t : Nat) (a_storey : Nat) (a_wind : Nat) (a_pair : Nat) (a_text : Nat) (a_read : Nat) (a_now : Nat) (a_image : Nat) (a_isKept : Nat) (a_row : Nat) (a_sight : Nat) (a_ways : Nat) (a_ends : Nat) (a_tried : Nat) (v_storeys : Int32) (v_jacks : Int32) (v_soft : Int32) (v_pairs : Int32) (v_bytes : Int32) (v_position : Int32) (v_tokenAt : Int32) (v_token : Int64) (v_digits : Int32) (v_number : Int32) (v_faultAt : Int32) (v_readMany : Int32) (v_readStoreys : Int32) (v_readPairs : Int32) (v_rows : Int32) (v_sights : Int32) (v_text : (Nat → Int32)) (v_read : (Nat → Int32)) (sz : Nat) (x1 : Int32) (post : Int32 → Int32 → Int32 → Int32 → Int32 → Int64 → Int32 → Int32 → (Nat → Int32) → Prop) (hf : f_X5_isPair v_readStoreys v_bytes v_text v_readPairs v_tokenAt v_digits v_number v_token v_position v_faultAt v_read x1 post) : Met l yX5_isPair (Cond.code yX5_isPair cX5_isPair 2 (some .boolean) :: mx_WS) rm_X5_isPair (va_Pc [.ref a_t, .int x1] (mx_Pw E (w_X5_isPair E a_t a_storey a_wind a_pair a_text a_read a_now a_image a_isKept a_row a_sight a_ways a_ends a_tried v_storeys v_jacks v_soft v_pairs v_bytes v_position v_tokenAt v_token v_digits v_number v_faultAt v_readMany v_readStoreys v_readPairs v_rows v_sights v_text v_read) sz)) (va_Qi (fun (v : Int32) (u : Int32 × Int32 × Int32 × Int32 × Int64 × Int32 × Int32 × (Nat → Int32)) => post v u.1 u.2.1 u.2.2.1 u.2.2.2.1 u.2.2.2.2.1 u.2.2.2.2.2.1 u.2.2.2.2.2.2.1 u.2.2.2.2.2.2.2) (fun u t => va_P E.1 vwCl (w_X5_isPair E a_t a_storey a_wind a_pair a_text a_read a_now a_image a_isKept a_row a_sight a_ways a_ends a_tried v_storeys v_jacks v_soft v_pairs v_bytes u.2.2.2.2.2.1 u.2.1 u.2.2.2.2.1 u.2.2.1 u.2.2.2.1 u.2.2.2.2.2.2.1 v_readMany v_readStoreys u.1 v_rows v_sights v_text u.2.2.2.2.2.2.2) t.heap) (va_A (w_X5_isPair E a_t a_storey a_wind a_pair a_text a_read a_now a_image a_isKept a_row a_sight a_ways a_ends a_tried v_storeys v_jacks v_soft v_pairs v_bytes v_position v_tokenAt v_token v_digits v_number v_faultAt v_readMany v_readStoreys v_readPairs v_rows v_sights v_text v_read) sz)) 0 0 (va_A (w_X5_isPair E a_t a_storey a_wind a_pair a_text a_read a_now a_image a_isKept a_row a_sight a_ways a_ends a_tried v_storeys v_jacks v_soft v_pairs v_bytes v_position v_tokenAt v_token v_digits v_number v_faultAt v_readMany v_readStoreys v_readPairs v_rows v_sights v_text v_read) sz) :=
  mx_metWz (by decide) rfl rfl (fun hB hP hD hA hRet ls hl => b_X5_isPair E a_t a_storey a_wind a_pair a_text a_read a_now a_image a_isKept a_row a_sight a_ways a_ends a_tried v_storeys v_jacks v_soft v_pairs v_bytes v_position v_tokenAt v_token v_digits v_number v_faultAt v_readMany v_readStoreys v_readPairs v_rows v_sights v_text v_read x1 post hB hP hD hA hRet hf ls hl)
