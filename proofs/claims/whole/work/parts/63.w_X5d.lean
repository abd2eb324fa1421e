def rm_X5_keep : Room := { frames := 1, cells := 0, slots := 0, locals := 22 }
set_option maxHeartbeats 4000000 in
set_option maxRecDepth 100000 in
theorem b_X5_keep {p : Program} {l : Launch} {e : Env} {s : State} {m : MethodId} {args : Array Value} {below : List Frame} {meth : Method} {c : Code} {Q : State → Prop} {A : Nat → Prop} (E : mx_E) (a_t : Nat) (a_storey : Nat) (a_wind : Nat) (a_pair : Nat) (a_text : Nat) (a_read : Nat) (a_now : Nat) (a_image : Nat) (a_isKept : Nat) (a_row : Nat) (a_sight : Nat) (a_ways : Nat) (a_ends : Nat) (a_tried : Nat) (v_storeys : Int32) (v_jacks : Int32) (v_soft : Int32) (v_pairs : Int32) (v_bytes : Int32) (v_position : Int32) (v_tokenAt : Int32) (v_token : Int64) (v_digits : Int32) (v_number : Int32) (v_faultAt : Int32) (v_readMany : Int32) (v_readStoreys : Int32) (v_readPairs : Int32) (v_rows : Int32) (v_sights : Int32) (v_isKept : (Nat → Int32)) (v_now : (Nat → Int32)) (v_image : (Nat → Int32)) (x1 : Int32) (post : Int32 → (Nat → Int32) → (Nat → Int32) → Prop) (hB : mx_B p m c cX5_keep 3 s args RX5 E) (hP : va_P E.1 vwCl (w_X5_keep E a_t a_storey a_wind a_pair a_text a_read a_now a_image a_isKept a_row a_sight a_ways a_ends a_tried v_storeys v_jacks v_soft v_pairs v_bytes v_position v_tokenAt v_token v_digits v_number v_faultAt v_readMany v_readStoreys v_readPairs v_rows v_sights v_isKept v_now v_image) s.heap) (hD : va_D A (w_X5_keep E a_t a_storey a_wind a_pair a_text a_read a_now a_image a_isKept a_row a_sight a_ways a_ends a_tried v_storeys v_jacks v_soft v_pairs v_bytes v_position v_tokenAt v_token v_digits v_number v_faultAt v_readMany v_readStoreys v_readPairs v_rows v_sights v_isKept v_now v_image)) (hA : ∀ q : Nat, s.heap.size ≤ q → A q) (hRet : ∀ (v : Int32) (u : (Nat → Int32) × (Nat → Int32)) (pc : Nat) (ls : Array Slot) (H : Heap) (locs : List Loc), decode cX5_keep pc = .ok (.ireturn, 1) → post v u.1 u.2 → va_P E.1 vwCl (w_X5_keep E a_t a_storey a_wind a_pair a_text a_read a_now a_image a_isKept a_row a_sight a_ways a_ends a_tried v_storeys v_jacks v_soft v_pairs v_bytes v_position v_tokenAt v_token v_digits v_number v_faultAt v_readMany v_readStoreys v_readPairs v_rows v_sights u.1 v_now u.2) H → va_S A s.heap H locs → W p l e rm_X5_keep s m args below meth c H locs 0 0 Q (F0 m pc ls [.int v])) (hf : f_X5_keep v_now v_isKept v_image x1 post) (ls : Array Slot) (hl : lv_has ls 3 [(0, .ref a_t), (1, .int x1)]) : W p l e rm_X5_keep s m args below meth c s.heap [] 0 0 Q (F0 m 0 ls []) := by
  have hx := hB.x
  have hb := hB.b
  have hS : va_S A s.heap s.heap [] := va_S.rf
  have J_43 : ∀ (j43_x1 : Int32) (j43_v_isKept : (Nat → Int32)) (j43_v_image : (Nat → Int32)) (ls : Array Slot) (H : Heap) (locs : List Loc), f_X5_keep_43 v_now post j43_x1 j43_v_isKept j43_v_image → lv_has ls 3 [(0, .ref a_t), (1, .int j43_x1)] → va_P E.1 vwCl (w_X5_keep E a_t a_storey a_wind a_pair a_text a_read a_now a_image a_isKept a_row a_sight a_ways a_ends a_tried v_storeys v_jacks v_soft v_pairs v_bytes v_position v_tokenAt v_token v_digits v_number v_faultAt v_readMany v_readStoreys v_readPairs v_rows v_sights j43_v_isKept v_now j43_v_image) H → va_D A (w_X5_keep E a_t a_storey a_wind a_pair a_text a_read a_now a_image a_isKept a_row a_sight a_ways a_ends a_tried v_storeys v_jacks v_soft v_pairs v_bytes v_position v_tokenAt v_token v_digits v_number v_faultAt v_readMany v_readStoreys v_readPairs v_rows v_sights j43_v_isKept v_now j43_v_image) → va_S A s.heap H locs → W p l e rm_X5_keep s m args below meth c H locs 0 0 Q (F0 m 43 ls []) := by
    intro j43_x1 j43_v_isKept j43_v_image ls H locs hf hl hP hD hS
    refine lv_aload_n hx hb dX5_keep_43 rfl (lv_at hl 0 rfl) ?_
    refine gf_X5_38 hB hP 0 rfl rfl dX5_keep_44 ?_
    refine lv_iload_n hx hb dX5_keep_47 rfl (lv_at hl 1 rfl) ?_
    refine lv_iconst hx hb dX5_keep_48 kc_i_1 ?_
    obtain ⟨h_in, hf⟩ := hf
    refine va_zast hx hb hB.K hP hD hS 1 2 rfl rfl h_in dX5_keep_49 (fun H locs hP hD hS => ?_)
    have hP : va_P E.1 vwCl (w_X5_keep E a_t a_storey a_wind a_pair a_text a_read a_now a_image a_isKept a_row a_sight a_ways a_ends a_tried v_storeys v_jacks v_soft v_pairs v_bytes v_position v_tokenAt v_token v_digits v_number v_faultAt v_readMany v_readStoreys v_readPairs v_rows v_sights (upd j43_v_isKept j43_x1.toNatClampNeg (vp_nar .boolean 1)) v_now j43_v_image) H := hP
    have hD : va_D A (w_X5_keep E a_t a_storey a_wind a_pair a_text a_read a_now a_image a_isKept a_row a_sight a_ways a_ends a_tried v_storeys v_jacks v_soft v_pairs v_bytes v_position v_tokenAt v_token v_digits v_number v_faultAt v_readMany v_readStoreys v_readPairs v_rows v_sights (upd j43_v_isKept j43_x1.toNatClampNeg (vp_nar .boolean 1)) v_now j43_v_image) := hD
    refine lv_aload_n hx hb dX5_keep_50 rfl (lv_at hl 0 rfl) ?_
    refine gf_X5_32 hB hP 0 rfl rfl dX5_keep_51 ?_
    refine lv_iconst hx hb dX5_keep_54 kc_i_0 ?_
    obtain ⟨h_in, hf⟩ := hf
    refine va_iald hx hb hB.K hP 2 0 rfl rfl h_in dX5_keep_55 ?_
    exact hRet (v_now (0 : Int32).toNatClampNeg) (upd j43_v_isKept j43_x1.toNatClampNeg (vp_nar .boolean 1), j43_v_image) 56 ls H locs dX5_keep_56 hf hP hS
  have L_14 : ∀ (g14_x1 : Int32) (g14_v_isKept : (Nat → Int32)) (n : Nat) (j14_x2 : Int32) (j14_v_image : (Nat → Int32)) (ls : Array Slot) (H : Heap) (locs : List Loc), mx_l2 (f_X5_keep_14 v_now post g14_x1 g14_v_isKept) n j14_x2 j14_v_image → lv_has ls 3 [(0, .ref a_t), (1, .int g14_x1), (2, .int j14_x2)] → va_P E.1 vwCl (w_X5_keep E a_t a_storey a_wind a_pair a_text a_read a_now a_image a_isKept a_row a_sight a_ways a_ends a_tried v_storeys v_jacks v_soft v_pairs v_bytes v_position v_tokenAt v_token v_digits v_number v_faultAt v_readMany v_readStoreys v_readPairs v_rows v_sights g14_v_isKept v_now j14_v_image) H → va_D A (w_X5_keep E a_t a_storey a_wind a_pair a_text a_read a_now a_image a_isKept a_row a_sight a_ways a_ends a_tried v_storeys v_jacks v_soft v_pairs v_bytes v_position v_tokenAt v_token v_digits v_number v_faultAt v_readMany v_readStoreys v_readPairs v_rows v_sights g14_v_isKept v_now j14_v_image) → va_S A s.heap H locs → W p l e rm_X5_keep s m args below meth c H locs 0 0 Q (F0 m 14 ls []) := by
    intro g14_x1 g14_v_isKept n_14
    induction n_14 with
    | zero =>
      intro j14_x2 j14_v_image ls H locs hf hl hP hD hS
      exact False.elim hf
    | succ n_14 ih_14 =>
      intro j14_x2 j14_v_image ls H locs hf hl hP hD hS
      replace hf : f_X5_keep_14 v_now post g14_x1 g14_v_isKept (mx_l2 (f_X5_keep_14 v_now post g14_x1 g14_v_isKept) n_14) j14_x2 j14_v_image := hf
      refine lv_iload_n hx hb dX5_keep_14 rfl (lv_at hl 2 rfl) ?_
      refine lv_bipush hx hb dX5_keep_15 kc_b_10 ?_
      refine lv_icmp_ge (tgt := 43) hx hb dX5_keep_17 (by decide) (fun c17 => ?_) (fun c17 => ?_)
      · have hf := hf.1 c17
        exact J_43 g14_x1 g14_v_isKept j14_v_image ls H locs hf (lv_sub hl [0, 1] rfl) hP hD hS
      · have hf := hf.2 c17
        refine lv_aload_n hx hb dX5_keep_20 rfl (lv_at hl 0 rfl) ?_
        refine gf_X5_35 hB hP 0 rfl rfl dX5_keep_21 ?_
        refine lv_bipush hx hb dX5_keep_24 kc_b_10 ?_
        refine lv_iload_n hx hb dX5_keep_26 rfl (lv_at hl 1 rfl) ?_
        refine lv_imul hx hb dX5_keep_27 ?_
        refine lv_iload_n hx hb dX5_keep_28 rfl (lv_at hl 2 rfl) ?_
        refine lv_iadd hx hb dX5_keep_29 ?_
        refine lv_aload_n hx hb dX5_keep_30 rfl (lv_at hl 0 rfl) ?_
        refine gf_X5_32 hB hP 0 rfl rfl dX5_keep_31 ?_
        refine lv_iload_n hx hb dX5_keep_34 rfl (lv_at hl 2 rfl) ?_
        obtain ⟨h_in, hf⟩ := hf
        refine va_iald hx hb hB.K hP 2 0 rfl rfl h_in dX5_keep_35 ?_
        obtain ⟨h_in, hf⟩ := hf
        refine va_iast hx hb hB.K hP hD hS 3 0 rfl rfl h_in dX5_keep_36 (fun H locs hP hD hS => ?_)
        have hP : va_P E.1 vwCl (w_X5_keep E a_t a_storey a_wind a_pair a_text a_read a_now a_image a_isKept a_row a_sight a_ways a_ends a_tried v_storeys v_jacks v_soft v_pairs v_bytes v_position v_tokenAt v_token v_digits v_number v_faultAt v_readMany v_readStoreys v_readPairs v_rows v_sights g14_v_isKept v_now (upd j14_v_image ((10 * g14_x1) + j14_x2).toNatClampNeg (v_now j14_x2.toNatClampNeg))) H := hP
        have hD : va_D A (w_X5_keep E a_t a_storey a_wind a_pair a_text a_read a_now a_image a_isKept a_row a_sight a_ways a_ends a_tried v_storeys v_jacks v_soft v_pairs v_bytes v_position v_tokenAt v_token v_digits v_number v_faultAt v_readMany v_readStoreys v_readPairs v_rows v_sights g14_v_isKept v_now (upd j14_v_image ((10 * g14_x1) + j14_x2).toNatClampNeg (v_now j14_x2.toNatClampNeg))) := hD
        refine lv_iinc (v := j14_x2 + 1) (lv' := [(2, .int (j14_x2 + 1)), (0, .ref a_t), (1, .int g14_x1)]) hx hb dX5_keep_37 hl (k := 2) rfl (by rw [kc_i_1]) (by decide) rfl (fun ls hl => ?_)
        refine lv_goto (tgt := 14) hx hb dX5_keep_40 (by decide) ?_
        exact ih_14 (j14_x2 + 1) (upd j14_v_image ((10 * g14_x1) + j14_x2).toNatClampNeg (v_now j14_x2.toNatClampNeg)) ls H locs hf (lv_sub hl [1, 2, 0] rfl) hP hD hS
  obtain ⟨H, locs, eH, eL⟩ : ∃ (H : Heap) (locs : List Loc), H = s.heap ∧ locs = [] := ⟨_, _, rfl, rfl⟩
  rw [← eH] at hP
  have hS : va_S A s.heap H locs := by rw [eH, eL]; exact hS
  show W p l e rm_X5_keep s m args below meth c s.heap [] 0 0 Q (F0 m 0 ls [])
  rw [← eH, ← eL]
  refine lv_iload_n hx hb dX5_keep_0 rfl (lv_at hl 1 rfl) ?_
  refine lv_iconst hx hb dX5_keep_1 kc_i_0 ?_
  refine lv_iconst hx hb dX5_keep_2 kc_i_1 ?_
  refine mx_gi (mx_runS (As := [.int x1, .int 0, .int 1]) (rest := []) hB (c_X5_in1 l E x1 0 1 _ hf) sB_X5_in1 wst_X5_in1 wml_X5_60 rfl (mx_pp hB hP [] rfl) hl.1 rfl (Nat.le_of_ble_eq_true rfl) dX5_keep_3 ⟨Nat.zero_le _, Nat.zero_le _⟩) (fun r1 hf => ?_)
  refine lv_if_ne (tgt := 12) hx hb dX5_keep_6 (by decide) (fun c6 => ?_) (fun c6 => ?_)
  · have hf := hf.1 c6
    refine lv_iconst hx hb dX5_keep_12 kc_i_0 ?_
    refine lv_istore_n (lv' := [(2, .int 0), (0, .ref a_t), (1, .int x1)]) hx hb dX5_keep_13 rfl hl (by decide) rfl (fun ls hl => ?_)
    obtain ⟨n9, hf⟩ := hf
    exact L_14 x1 v_isKept n9 0 v_image ls H locs hf (lv_sub hl [1, 2, 0] rfl) hP hD hS
  · have hf := hf.2 c6
    refine lv_bipush hx hb dX5_keep_9 kc_b_m2 ?_
    exact hRet (-2) (v_isKept, v_image) 11 ls H locs dX5_keep_11 hf hP hS
theorem c_X5_keep (l : Launch) (E : mx_E) (a_t : Nat) (a_storey : Nat) (a_wind : Nat) (a_pair : Nat) (a_text : Nat) (a_read : Nat) (a_now : Nat) (a_image : Nat) (a_isKept : Nat) (a_row : Nat) (a_sight : Nat) (a_ways : Nat) (a_ends : Nat) (a_tried : Nat) (v_storeys : Int32) (v_jacks : Int32) (v_soft : Int32) (v_pairs : Int32) (v_bytes : Int32) (v_position : Int32) (v_tokenAt : Int32) (v_token : Int64) (v_digits : Int32) (v_number : Int32) (v_faultAt : Int32) (v_readMany : Int32) (v_readStoreys : Int32) (v_readPairs : Int32) (v_rows : Int32) (v_sights : Int32) (v_isKept : (Nat → Int32)) (v_now : (Nat → Int32)) (v_image : (Nat → Int32)) (sz : Nat) (x1 : Int32) (post : Int32 → (Nat → Int32) → (Nat → Int32) → Prop) (hf : f_X5_keep v_now v_isKept v_image x1 post) : Met l yX5_keep (Cond.code yX5_keep cX5_keep 3 (some .int) :: mx_WS) rm_X5_keep (va_Pc [.ref a_t, .int x1] (mx_Pw E (w_X5_keep E a_t a_storey a_wind a_pair a_text a_read a_now a_image a_isKept a_row a_sight a_ways a_ends a_tried v_storeys v_jacks v_soft v_pairs v_bytes v_position v_tokenAt v_token v_digits v_number v_faultAt v_readMany v_readStoreys v_readPairs v_rows v_sights v_isKept v_now v_image) sz)) (va_Qi (fun (v : Int32) (u : (Nat → Int32) × (Nat → Int32)) => post v u.1 u.2) (fun u t => va_P E.1 vwCl (w_X5_keep E a_t a_storey a_wind a_pair a_text a_read a_now a_image a_isKept a_row a_sight a_ways a_ends a_tried v_storeys v_jacks v_soft v_pairs v_bytes v_position v_tokenAt v_token v_digits v_number v_faultAt v_readMany v_readStoreys v_readPairs v_rows v_sights u.1 v_now u.2) t.heap) (va_A (w_X5_keep E a_t a_storey a_wind a_pair a_text a_read a_now a_image a_isKept a_row a_sight a_ways a_ends a_tried v_storeys v_jacks v_soft v_pairs v_bytes v_position v_tokenAt v_token v_digits v_number v_faultAt v_readMany v_readStoreys v_readPairs v_rows v_sights v_isKept v_now v_image) sz)) 0 0 (va_A (w_X5_keep E a_t a_storey a_wind a_pair a_text a_read a_now a_image a_isKept a_row a_sight a_ways a_ends a_tried v_storeys v_jacks v_soft v_pairs v_bytes v_position v_tokenAt v_token v_digits v_number v_faultAt v_readMany v_readStoreys v_readPairs v_rows v_sights v_isKept v_now v_image) sz) :=
  mx_metWi (by decide) rfl rfl (fun hB hP hD hA hRet ls hl => b_X5_keep E a_t a_storey a_wind a_pair a_text a_read a_now a_image a_isKept a_row a_sight a_ways a_ends a_tried v_storeys v_jacks v_soft v_pairs v_bytes v_position v_tokenAt v_token v_digits v_number v_faultAt v_readMany v_readStoreys v_readPairs v_rows v_sights v_isKept v_now v_image x1 post hB hP hD hA hRet hf ls hl)
def rm_X5_back : Room := { frames := 1, cells := 0, slots := 0, locals := 22 }
set_option maxHeartbeats 4000000 in
set_option maxRecDepth 100000 in
theorem b_X5_back {p : Program} {l : Launch} {e : Env} {s : State} {m : MethodId} {args : Array Value} {below : List Frame} {meth : Method} {c : Code} {Q : State → Prop} {A : Nat → Prop} (E : mx_E) (a_t : Nat) (a_storey : Nat) (a_wind : Nat) (a_pair : Nat) (a_text : Nat) (a_read : Nat) (a_now : Nat) (a_image : Nat) (a_isKept : Nat) (a_row : Nat) (a_sight : Nat) (a_ways : Nat) (a_ends : Nat) (a_tried : Nat) (v_storeys : Int32) (v_jacks : Int32) (v_soft : Int32) (v_pairs : Int32) (v_bytes : Int32) (v_position : Int32) (v_tokenAt : Int32) (v_token : Int64) (v_digits : Int32) (v_number : Int32) (v_faultAt : Int32) (v_readMany : Int32) (v_readStoreys : Int32) (v_readPairs : Int32) (v_rows : Int32) (v_sights : Int32) (v_isKept : (Nat → Int32)) (v_now : (Nat → Int32)) (v_image : (Nat → Int32)) (x1 : Int32) (post : Int32 → Int32 → (Nat → Int32) → Prop) (hB : mx_B p m c cX5_back 3 s args RX5 E) (hP : va_P E.1 vwCl (w_X5_back E a_t a_storey a_wind a_pair a_text a_read a_now a_image a_isKept a_row a_sight a_ways a_ends a_tried v_storeys v_jacks v_soft v_pairs v_bytes v_position v_tokenAt v_token v_digits v_number v_faultAt v_readMany v_readStoreys v_readPairs v_rows v_sights v_isKept v_now v_image) s.heap) (hD : va_D A (w_X5_back E a_t a_storey a_wind a_pair a_text a_read a_now a_image a_isKept a_row a_sight a_ways a_ends a_tried v_storeys v_jacks v_soft v_pairs v_bytes v_position v_tokenAt v_token v_digits v_number v_faultAt v_readMany v_readStoreys v_readPairs v_rows v_sights v_isKept v_now v_image)) (hA : ∀ q : Nat, s.heap.size ≤ q → A q) (hRet : ∀ (v : Int32) (u : Int32 × (Nat → Int32)) (pc : Nat) (ls : Array Slot) (H : Heap) (locs : List Loc), decode cX5_back pc = .ok (.ireturn, 1) → post v u.1 u.2 → va_P E.1 vwCl (w_X5_back E a_t a_storey a_wind a_pair a_text a_read a_now a_image a_isKept a_row a_sight a_ways a_ends a_tried v_storeys v_jacks v_soft v_pairs v_bytes v_position v_tokenAt v_token v_digits v_number v_faultAt v_readMany v_readStoreys v_readPairs v_rows u.1 v_isKept u.2 v_image) H → va_S A s.heap H locs → W p l e rm_X5_back s m args below meth c H locs 0 0 Q (F0 m pc ls [.int v])) (hf : f_X5_back v_isKept v_image v_sights v_now x1 post) (ls : Array Slot) (hl : lv_has ls 3 [(0, .ref a_t), (1, .int x1)]) : W p l e rm_X5_back s m args below meth c s.heap [] 0 0 Q (F0 m 0 ls []) := by
  have hx := hB.x
  have hb := hB.b
  have hS : va_S A s.heap s.heap [] := va_S.rf
  have J_55 : ∀ (j55_v_sights : Int32) (j55_v_now : (Nat → Int32)) (ls : Array Slot) (H : Heap) (locs : List Loc), f_X5_back_55 v_isKept v_image post j55_v_sights j55_v_now → lv_has ls 3 [(0, .ref a_t)] → va_P E.1 vwCl (w_X5_back E a_t a_storey a_wind a_pair a_text a_read a_now a_image a_isKept a_row a_sight a_ways a_ends a_tried v_storeys v_jacks v_soft v_pairs v_bytes v_position v_tokenAt v_token v_digits v_number v_faultAt v_readMany v_readStoreys v_readPairs v_rows j55_v_sights v_isKept j55_v_now v_image) H → va_D A (w_X5_back E a_t a_storey a_wind a_pair a_text a_read a_now a_image a_isKept a_row a_sight a_ways a_ends a_tried v_storeys v_jacks v_soft v_pairs v_bytes v_position v_tokenAt v_token v_digits v_number v_faultAt v_readMany v_readStoreys v_readPairs v_rows j55_v_sights v_isKept j55_v_now v_image) → va_S A s.heap H locs → W p l e rm_X5_back s m args below meth c H locs 0 0 Q (F0 m 55 ls []) := by
    intro j55_v_sights j55_v_now ls H locs hf hl hP hD hS
    refine lv_aload_n hx hb dX5_back_55 rfl (lv_at hl 0 rfl) ?_
    refine lv_iconst hx hb dX5_back_56 kc_i_0 ?_
    refine pf_X5_169 hB hP hD hS 0 rfl (Nat.le_of_ble_eq_true rfl) dX5_back_57 (w_X5_back E a_t a_storey a_wind a_pair a_text a_read a_now a_image a_isKept a_row a_sight a_ways a_ends a_tried v_storeys v_jacks v_soft v_pairs v_bytes v_position v_tokenAt v_token v_digits v_number v_faultAt v_readMany v_readStoreys v_readPairs v_rows 0 v_isKept j55_v_now v_image) rfl (fun H locs hP hD hS => ?_)
    refine lv_aload_n hx hb dX5_back_60 rfl (lv_at hl 0 rfl) ?_
    refine gf_X5_32 hB hP 0 rfl rfl dX5_back_61 ?_
    refine lv_iconst hx hb dX5_back_64 kc_i_0 ?_
    obtain ⟨h_in, hf⟩ := hf
    refine va_iald hx hb hB.K hP 2 0 rfl rfl h_in dX5_back_65 ?_
    exact hRet (j55_v_now (0 : Int32).toNatClampNeg) (0, j55_v_now) 66 ls H locs dX5_back_66 hf hP hS
  have L_26 : ∀ (g26_x1 : Int32) (g26_v_sights : Int32) (n : Nat) (j26_x2 : Int32) (j26_v_now : (Nat → Int32)) (ls : Array Slot) (H : Heap) (locs : List Loc), mx_l2 (f_X5_back_26 v_isKept v_image post g26_x1 g26_v_sights) n j26_x2 j26_v_now → lv_has ls 3 [(0, .ref a_t), (1, .int g26_x1), (2, .int j26_x2)] → va_P E.1 vwCl (w_X5_back E a_t a_storey a_wind a_pair a_text a_read a_now a_image a_isKept a_row a_sight a_ways a_ends a_tried v_storeys v_jacks v_soft v_pairs v_bytes v_position v_tokenAt v_token v_digits v_number v_faultAt v_readMany v_readStoreys v_readPairs v_rows g26_v_sights v_isKept j26_v_now v_image) H → va_D A (w_X5_back E a_t a_storey a_wind a_pair a_text a_read a_now a_image a_isKept a_row a_sight a_ways a_ends a_tried v_storeys v_jacks v_soft v_pairs v_bytes v_position v_tokenAt v_token v_digits v_number v_faultAt v_readMany v_readStoreys v_readPairs v_rows g26_v_sights v_isKept j26_v_now v_image) → va_S A s.heap H locs → W p l e rm_X5_back s m args below meth c H locs 0 0 Q (F0 m 26 ls []) := by
    intro g26_x1 g26_v_sights n_26
    induction n_26 with
    | zero =>
      intro j26_x2 j26_v_now ls H locs hf hl hP hD hS
      exact False.elim hf
    | succ n_26 ih_26 =>
      intro j26_x2 j26_v_now ls H locs hf hl hP hD hS
      replace hf : f_X5_back_26 v_isKept v_image post g26_x1 g26_v_sights (mx_l2 (f_X5_back_26 v_isKept v_image post g26_x1 g26_v_sights) n_26) j26_x2 j26_v_now := hf
      refine lv_iload_n hx hb dX5_back_26 rfl (lv_at hl 2 rfl) ?_
      refine lv_bipush hx hb dX5_back_27 kc_b_10 ?_
      refine lv_icmp_ge (tgt := 55) hx hb dX5_back_29 (by decide) (fun c29 => ?_) (fun c29 => ?_)
      · have hf := hf.1 c29
        exact J_55 g26_v_sights j26_v_now ls H locs hf (lv_sub hl [0] rfl) hP hD hS
      · have hf := hf.2 c29
        refine lv_aload_n hx hb dX5_back_32 rfl (lv_at hl 0 rfl) ?_
        refine gf_X5_32 hB hP 0 rfl rfl dX5_back_33 ?_
        refine lv_iload_n hx hb dX5_back_36 rfl (lv_at hl 2 rfl) ?_
        refine lv_aload_n hx hb dX5_back_37 rfl (lv_at hl 0 rfl) ?_
        refine gf_X5_35 hB hP 0 rfl rfl dX5_back_38 ?_
        refine lv_bipush hx hb dX5_back_41 kc_b_10 ?_
        refine lv_iload_n hx hb dX5_back_43 rfl (lv_at hl 1 rfl) ?_
        refine lv_imul hx hb dX5_back_44 ?_
        refine lv_iload_n hx hb dX5_back_45 rfl (lv_at hl 2 rfl) ?_
        refine lv_iadd hx hb dX5_back_46 ?_
        obtain ⟨h_in, hf⟩ := hf
        refine va_iald hx hb hB.K hP 3 0 rfl rfl h_in dX5_back_47 ?_
        obtain ⟨h_in, hf⟩ := hf
        refine va_iast hx hb hB.K hP hD hS 2 0 rfl rfl h_in dX5_back_48 (fun H locs hP hD hS => ?_)
        have hP : va_P E.1 vwCl (w_X5_back E a_t a_storey a_wind a_pair a_text a_read a_now a_image a_isKept a_row a_sight a_ways a_ends a_tried v_storeys v_jacks v_soft v_pairs v_bytes v_position v_tokenAt v_token v_digits v_number v_faultAt v_readMany v_readStoreys v_readPairs v_rows g26_v_sights v_isKept (upd j26_v_now j26_x2.toNatClampNeg (v_image ((10 * g26_x1) + j26_x2).toNatClampNeg)) v_image) H := hP
        have hD : va_D A (w_X5_back E a_t a_storey a_wind a_pair a_text a_read a_now a_image a_isKept a_row a_sight a_ways a_ends a_tried v_storeys v_jacks v_soft v_pairs v_bytes v_position v_tokenAt v_token v_digits v_number v_faultAt v_readMany v_readStoreys v_readPairs v_rows g26_v_sights v_isKept (upd j26_v_now j26_x2.toNatClampNeg (v_image ((10 * g26_x1) + j26_x2).toNatClampNeg)) v_image) := hD
        refine lv_iinc (v := j26_x2 + 1) (lv' := [(2, .int (j26_x2 + 1)), (0, .ref a_t), (1, .int g26_x1)]) hx hb dX5_back_49 hl (k := 2) rfl (by rw [kc_i_1]) (by decide) rfl (fun ls hl => ?_)
        refine lv_goto (tgt := 26) hx hb dX5_back_52 (by decide) ?_
        exact ih_26 (j26_x2 + 1) (upd j26_v_now j26_x2.toNatClampNeg (v_image ((10 * g26_x1) + j26_x2).toNatClampNeg)) ls H locs hf (lv_sub hl [1, 2, 0] rfl) hP hD hS
  obtain ⟨H, locs, eH, eL⟩ : ∃ (H : Heap) (locs : List Loc), H = s.heap ∧ locs = [] := ⟨_, _, rfl, rfl⟩
  rw [← eH] at hP
  have hS : va_S A s.heap H locs := by rw [eH, eL]; exact hS
  show W p l e rm_X5_back s m args below meth c s.heap [] 0 0 Q (F0 m 0 ls [])
  rw [← eH, ← eL]
  refine lv_iload_n hx hb dX5_back_0 rfl (lv_at hl 1 rfl) ?_
  refine lv_iconst hx hb dX5_back_1 kc_i_0 ?_
  refine lv_iconst hx hb dX5_back_2 kc_i_1 ?_
  refine mx_gi (mx_runS (As := [.int x1, .int 0, .int 1]) (rest := []) hB (c_X5_in1 l E x1 0 1 _ hf) sB_X5_in1 wst_X5_in1 wml_X5_60 rfl (mx_pp hB hP [] rfl) hl.1 rfl (Nat.le_of_ble_eq_true rfl) dX5_back_3 ⟨Nat.zero_le _, Nat.zero_le _⟩) (fun r1 hf => ?_)
  refine lv_if_ne (tgt := 12) hx hb dX5_back_6 (by decide) (fun c6 => ?_) (fun c6 => ?_)
  · have hf := hf.1 c6
    refine lv_aload_n hx hb dX5_back_12 rfl (lv_at hl 0 rfl) ?_
    refine gf_X5_38 hB hP 0 rfl rfl dX5_back_13 ?_
    refine lv_iload_n hx hb dX5_back_16 rfl (lv_at hl 1 rfl) ?_
    obtain ⟨h_in, hf⟩ := hf
    refine va_zald hx hb hB.K hP 1 2 rfl rfl h_in dX5_back_17 ?_
    refine lv_if_ne (tgt := 24) hx hb dX5_back_18 (by decide) (fun c18 => ?_) (fun c18 => ?_)
    · have hf := hf.1 c18
      refine lv_iconst hx hb dX5_back_24 kc_i_0 ?_
      refine lv_istore_n (lv' := [(2, .int 0), (0, .ref a_t), (1, .int x1)]) hx hb dX5_back_25 rfl hl (by decide) rfl (fun ls hl => ?_)
      obtain ⟨n9, hf⟩ := hf
      exact L_26 x1 v_sights n9 0 v_now ls H locs hf (lv_sub hl [1, 2, 0] rfl) hP hD hS
    · have hf := hf.2 c18
      refine lv_bipush hx hb dX5_back_21 kc_b_m4 ?_
      exact hRet (-4) (v_sights, v_now) 23 ls H locs dX5_back_23 hf hP hS
  · have hf := hf.2 c6
    refine lv_bipush hx hb dX5_back_9 kc_b_m2 ?_
    exact hRet (-2) (v_sights, v_now) 11 ls H locs dX5_back_11 hf hP hS
theorem c_X5_back (l : Launch) (E : mx_E) (a_t : Nat) (a_storey : Nat) (a_wind : Nat) (a_pair : Nat) (a_text : Nat) (a_read : Nat) (a_now : Nat) (a_image : Nat) (a_isKept : Nat) (a_row : Nat) (a_sight : Nat) (a_ways : Nat) (a_ends : Nat) (a_tried : Nat) (v_storeys : Int32) (v_jacks : Int32) (v_soft : Int32) (v_pairs : Int32) (v_bytes : Int32) (v_position : Int32) (v_tokenAt : Int32) (v_token : Int64) (v_digits : Int32) (v_number : Int32) (v_faultAt : Int32) (v_readMany : Int32) (v_readStoreys : Int32) (v_readPairs : Int32) (v_rows : Int32) (v_sights : Int32) (v_isKept : (Nat → Int32)) (v_now : (Nat → Int32)) (v_image : (Nat → Int32)) (sz : Nat) (x1 : Int32) (post : Int32 → Int32 → (Nat → Int32) → Prop) (hf : f_X5_back v_isKept v_image v_sights v_now x1 post) : Met l yX5_back (Cond.code yX5_back cX5_back 3 (some .int) :: mx_WS) rm_X5_back (va_Pc [.ref a_t, .int x1] (mx_Pw E (w_X5_back E a_t a_storey a_wind a_pair a_text a_read a_now a_image a_isKept a_row a_sight a_ways a_ends a_tried v_storeys v_jacks v_soft v_pairs v_bytes v_position v_tokenAt v_token v_digits v_number v_faultAt v_readMany v_readStoreys v_readPairs v_rows v_sights v_isKept v_now v_image) sz)) (va_Qi (fun (v : Int32) (u : Int32 × (Nat → Int32)) => post v u.1 u.2) (fun u t => va_P E.1 vwCl (w_X5_back E a_t a_storey a_wind a_pair a_text a_read a_now a_image a_isKept a_row a_sight a_ways a_ends a_tried v_storeys v_jacks v_soft v_pairs v_bytes v_position v_tokenAt v_token v_digits v_number v_faultAt v_readMany v_readStoreys v_readPairs v_rows u.1 v_isKept u.2 v_image) t.heap) (va_A (w_X5_back E a_t a_storey a_wind a_pair a_text a_read a_now a_image a_isKept a_row a_sight a_ways a_ends a_tried v_storeys v_jacks v_soft v_pairs v_bytes v_position v_tokenAt v_token v_digits v_number v_faultAt v_readMany v_readStoreys v_readPairs v_rows v_sights v_isKept v_now v_image) sz)) 0 0 (va_A (w_X5_back E a_t a_storey a_wind a_pair a_text a_read a_now a_image a_isKept a_row a_sight a_ways a_ends a_tried v_storeys v_jacks v_soft v_pairs v_bytes v_position v_tokenAt v_token v_digits v_number v_faultAt v_readMany v_readStoreys v_readPairs v_rows v_sights v_isKept v_now v_image) sz) :=
  mx_metWi (by decide) rfl rfl (fun hB hP hD hA hRet ls hl => b_X5_back E a_t a_storey a_wind a_pair a_text a_read a_now a_image a_isKept a_row a_sight a_ways a_ends a_tried v_storeys v_jacks v_soft v_pairs v_bytes v_position v_tokenAt v_token v_digits v_number v_faultAt v_readMany v_readStoreys v_readPairs v_rows v_sights v_isKept v_now v_image x1 post hB hP hD hA hRet hf ls hl)
def rm_X5_layWays : Room := { frames := 3, cells := 0, slots := 0, locals := 70 }
set_option maxHeartbeats 4000000 in
set_option maxRecDepth 100000 in
theorem b_X5_layWays {p : Program} {l : Launch} {e : Env} {s : State} {m : MethodId} {args : Array Value} {below : List Frame} {meth : Method} {c : Code} {Q : State → Prop} {A : Nat → Prop} (E : mx_E) (a_t : Nat) (a_storey : Nat) (a_wind : Nat) (a_pair : Nat) (a_text : Nat) (a_read : Nat) (a_now : Nat) (a_image : Nat) (a_isKept : Nat) (a_row : Nat) (a_sight : Nat) (a_ways : Nat) (a_ends : Nat) (a_tried : Nat) (v_storeys : Int32) (v_jacks : Int32) (v_soft : Int32) (v_pairs : Int32) (v_bytes : Int32) (v_position : Int32) (v_tokenAt : Int32) (v_token : Int64) (v_digits : Int32) (v_number : Int32) (v_faultAt : Int32) (v_readMany : Int32) (v_readStoreys : Int32) (v_readPairs : Int32) (v_rows : Int32) (v_sights : Int32) (v_ends : (Nat → Int32)) (v_storey : (Nat → Int32)) (v_pair : (Nat → Int32)) (v_ways : (Nat → Int32)) (x1 : Int32) (post : (Nat → Int32) → (Nat → Int32) → Prop) (hB : mx_B p m c cX5_layWays 6 s args RX5 E) (hP : va_P E.1 vwCl (w_X5_layWays E a_t a_storey a_wind a_pair a_text a_read a_now a_image a_isKept a_row a_sight a_ways a_ends a_tried v_storeys v_jacks v_soft v_pairs v_bytes v_position v_tokenAt v_token v_digits v_number v_faultAt v_readMany v_readStoreys v_readPairs v_rows v_sights v_ends v_storey v_pair v_ways) s.heap) (hD : va_D A (w_X5_layWays E a_t a_storey a_wind a_pair a_text a_read a_now a_image a_isKept a_row a_sight a_ways a_ends a_tried v_storeys v_jacks v_soft v_pairs v_bytes v_position v_tokenAt v_token v_digits v_number v_faultAt v_readMany v_readStoreys v_readPairs v_rows v_sights v_ends v_storey v_pair v_ways)) (hA : ∀ q : Nat, s.heap.size ≤ q → A q) (hRet : ∀ (u : (Nat → Int32) × (Nat → Int32)) (pc : Nat) (ls : Array Slot) (H : Heap) (locs : List Loc), decode cX5_layWays pc = .ok (.return_, 1) → post u.1 u.2 → va_P E.1 vwCl (w_X5_layWays E a_t a_storey a_wind a_pair a_text a_read a_now a_image a_isKept a_row a_sight a_ways a_ends a_tried v_storeys v_jacks v_soft v_pairs v_bytes v_position v_tokenAt v_token v_digits v_number v_faultAt v_readMany v_readStoreys v_readPairs v_rows v_sights u.1 v_storey v_pair u.2) H → va_S A s.heap H locs → W p l e rm_X5_layWays s m args below meth c H locs 0 0 Q (F0 m pc ls [])) (hf : f_X5_layWays v_storeys v_storey v_pairs v_pair v_ends v_ways x1 post) (ls : Array Slot) (hl : lv_has ls 6 [(0, .ref a_t), (1, .int x1)]) : W p l e rm_X5_layWays s m args below meth c s.heap [] 0 0 Q (F0 m 0 ls []) := by
  have hx := hB.x
  have hb := hB.b
  have hS : va_S A s.heap s.heap [] := va_S.rf
  have L_122 : ∀ (g122_x1 : Int32) (g122_x2 : Int32) (g122_v_ways : (Nat → Int32)) (n : Nat) (j122_x3 : Int32) (j122_v_ends : (Nat → Int32)) (ls : Array Slot) (H : Heap) (locs : List Loc), mx_l2 (f_X5_layWays_122 v_storeys v_storey v_pairs v_pair post g122_x1 g122_x2 g122_v_ways) n j122_x3 j122_v_ends → lv_has ls 6 [(0, .ref a_t), (1, .int g122_x1), (2, .int g122_x2), (3, .int j122_x3)] → va_P E.1 vwCl (w_X5_layWays E a_t a_storey a_wind a_pair a_text a_read a_now a_image a_isKept a_row a_sight a_ways a_ends a_tried v_storeys v_jacks v_soft v_pairs v_bytes v_position v_tokenAt v_token v_digits v_number v_faultAt v_readMany v_readStoreys v_readPairs v_rows v_sights j122_v_ends v_storey v_pair g122_v_ways) H → va_D A (w_X5_layWays E a_t a_storey a_wind a_pair a_text a_read a_now a_image a_isKept a_row a_sight a_ways a_ends a_tried v_storeys v_jacks v_soft v_pairs v_bytes v_position v_tokenAt v_token v_digits v_number v_faultAt v_readMany v_readStoreys v_readPairs v_rows v_sights j122_v_ends v_storey v_pair g122_v_ways) → va_S A s.heap H locs → W p l e rm_X5_layWays s m args below meth c H locs 0 0 Q (F0 m 122 ls []) := by
    intro g122_x1 g122_x2 g122_v_ways n_122
    induction n_122 with
    | zero =>
      intro j122_x3 j122_v_ends ls H locs hf hl hP hD hS
      exact False.elim hf
    | succ n_122 ih_122 =>
      have J_202 : ∀ (j202_x3 : Int32) (j202_x4 : Int32) (j202_v_ends : (Nat → Int32)) (ls : Array Slot) (H : Heap) (locs : List Loc), f_X5_layWays_202 v_storeys v_storey v_pairs v_pair (mx_l2 (f_X5_layWays_122 v_storeys v_storey v_pairs v_pair post g122_x1 g122_x2 g122_v_ways) n_122) post g122_x1 g122_x2 j202_x3 j202_x4 j202_v_ends g122_v_ways → lv_has ls 6 [(0, .ref a_t), (1, .int g122_x1), (2, .int g122_x2), (3, .int j202_x3), (4, .int j202_x4)] → va_P E.1 vwCl (w_X5_layWays E a_t a_storey a_wind a_pair a_text a_read a_now a_image a_isKept a_row a_sight a_ways a_ends a_tried v_storeys v_jacks v_soft v_pairs v_bytes v_position v_tokenAt v_token v_digits v_number v_faultAt v_readMany v_readStoreys v_readPairs v_rows v_sights j202_v_ends v_storey v_pair g122_v_ways) H → va_D A (w_X5_layWays E a_t a_storey a_wind a_pair a_text a_read a_now a_image a_isKept a_row a_sight a_ways a_ends a_tried v_storeys v_jacks v_soft v_pairs v_bytes v_position v_tokenAt v_token v_digits v_number v_faultAt v_readMany v_readStoreys v_readPairs v_rows v_sights j202_v_ends v_storey v_pair g122_v_ways) → va_S A s.heap H locs → W p l e rm_X5_layWays s m args below meth c H locs 0 0 Q (F0 m 202 ls []) := by
        intro j202_x3 j202_x4 j202_v_ends ls H locs hf hl hP hD hS
        refine lv_aload_n hx hb dX5_layWays_202 rfl (lv_at hl 0 rfl) ?_
        refine gf_X5_51 hB hP 0 rfl rfl dX5_layWays_203 ?_
        refine lv_iload_n hx hb dX5_layWays_206 rfl (lv_at hl 3 rfl) ?_
        refine lv_iload hx hb dX5_layWays_207 (lv_at hl 4 rfl) ?_
        obtain ⟨h_in, hf⟩ := hf
        refine va_zast hx hb hB.K hP hD hS 1 2 rfl rfl h_in dX5_layWays_209 (fun H locs hP hD hS => ?_)
        have hP : va_P E.1 vwCl (w_X5_layWays E a_t a_storey a_wind a_pair a_text a_read a_now a_image a_isKept a_row a_sight a_ways a_ends a_tried v_storeys v_jacks v_soft v_pairs v_bytes v_position v_tokenAt v_token v_digits v_number v_faultAt v_readMany v_readStoreys v_readPairs v_rows v_sights (upd j202_v_ends j202_x3.toNatClampNeg (vp_nar .boolean j202_x4)) v_storey v_pair g122_v_ways) H := hP
        have hD : va_D A (w_X5_layWays E a_t a_storey a_wind a_pair a_text a_read a_now a_image a_isKept a_row a_sight a_ways a_ends a_tried v_storeys v_jacks v_soft v_pairs v_bytes v_position v_tokenAt v_token v_digits v_number v_faultAt v_readMany v_readStoreys v_readPairs v_rows v_sights (upd j202_v_ends j202_x3.toNatClampNeg (vp_nar .boolean j202_x4)) v_storey v_pair g122_v_ways) := hD
        refine lv_iinc (v := j202_x3 + (-1)) (lv' := [(3, .int (j202_x3 + (-1))), (0, .ref a_t), (1, .int g122_x1), (2, .int g122_x2), (4, .int j202_x4)]) hx hb dX5_layWays_210 hl (k := 3) rfl (by rw [kc_i_m1]) (by decide) rfl (fun ls hl => ?_)
        refine lv_goto (tgt := 122) hx hb dX5_layWays_213 (by decide) ?_
        exact ih_122 (j202_x3 + (-1)) (upd j202_v_ends j202_x3.toNatClampNeg (vp_nar .boolean j202_x4)) ls H locs hf (lv_sub hl [1, 2, 3, 0] rfl) hP hD hS
      have L_141 : ∀ (g141_x3 : Int32) (g141_v_ends : (Nat → Int32)) (n : Nat) (j141_x4 : Int32) (j141_x5 : Int32) (ls : Array Slot) (H : Heap) (locs : List Loc), mx_l2 (f_X5_layWays_141 v_storeys v_storey v_pairs v_pair (mx_l2 (f_X5_layWays_122 v_storeys v_storey v_pairs v_pair post g122_x1 g122_x2 g122_v_ways) n_122) post g122_x1 g122_x2 g141_x3 g141_v_ends g122_v_ways) n j141_x4 j141_x5 → lv_has ls 6 [(0, .ref a_t), (1, .int g122_x1), (2, .int g122_x2), (3, .int g141_x3), (4, .int j141_x4), (5, .int j141_x5)] → va_P E.1 vwCl (w_X5_layWays E a_t a_storey a_wind a_pair a_text a_read a_now a_image a_isKept a_row a_sight a_ways a_ends a_tried v_storeys v_jacks v_soft v_pairs v_bytes v_position v_tokenAt v_token v_digits v_number v_faultAt v_readMany v_readStoreys v_readPairs v_rows v_sights g141_v_ends v_storey v_pair g122_v_ways) H → va_D A (w_X5_layWays E a_t a_storey a_wind a_pair a_text a_read a_now a_image a_isKept a_row a_sight a_ways a_ends a_tried v_storeys v_jacks v_soft v_pairs v_bytes v_position v_tokenAt v_token v_digits v_number v_faultAt v_readMany v_readStoreys v_readPairs v_rows v_sights g141_v_ends v_storey v_pair g122_v_ways) → va_S A s.heap H locs → W p l e rm_X5_layWays s m args below meth c H locs 0 0 Q (F0 m 141 ls []) := by
        intro g141_x3 g141_v_ends n_141
        induction n_141 with
        | zero =>
          intro j141_x4 j141_x5 ls H locs hf hl hP hD hS
          exact False.elim hf
        | succ n_141 ih_141 =>
          intro j141_x4 j141_x5 ls H locs hf hl hP hD hS
          replace hf : f_X5_layWays_141 v_storeys v_storey v_pairs v_pair (mx_l2 (f_X5_layWays_122 v_storeys v_storey v_pairs v_pair post g122_x1 g122_x2 g122_v_ways) n_122) post g122_x1 g122_x2 g141_x3 g141_v_ends g122_v_ways (mx_l2 (f_X5_layWays_141 v_storeys v_storey v_pairs v_pair (mx_l2 (f_X5_layWays_122 v_storeys v_storey v_pairs v_pair post g122_x1 g122_x2 g122_v_ways) n_122) post g122_x1 g122_x2 g141_x3 g141_v_ends g122_v_ways) n_141) j141_x4 j141_x5 := hf
          refine lv_iload hx hb dX5_layWays_141 (lv_at hl 5 rfl) ?_
          refine lv_aload_n hx hb dX5_layWays_143 rfl (lv_at hl 0 rfl) ?_
          refine gf_X5_57 hB hP 0 rfl rfl dX5_layWays_144 ?_
          refine lv_icmp_ge (tgt := 202) hx hb dX5_layWays_147 (by decide) (fun c147 => ?_) (fun c147 => ?_)
          · have hf := hf.1 c147
            exact J_202 g141_x3 j141_x4 g141_v_ends ls H locs hf (lv_sub hl [0, 1, 2, 3, 4] rfl) hP hD hS
          · have hf := hf.2 c147
            refine lv_iload hx hb dX5_layWays_150 (lv_at hl 4 rfl) ?_
            refine lv_if_ne (tgt := 202) hx hb dX5_layWays_152 (by decide) (fun c152 => ?_) (fun c152 => ?_)
            · have hf := hf.1 c152
              exact J_202 g141_x3 j141_x4 g141_v_ends ls H locs hf (lv_sub hl [0, 1, 2, 3, 4] rfl) hP hD hS
            · have hf := hf.2 c152
              refine lv_iload_n hx hb dX5_layWays_155 rfl (lv_at hl 3 rfl) ?_
              refine lv_iload hx hb dX5_layWays_156 (lv_at hl 5 rfl) ?_
              refine mx_gi (mx_runS (As := [.int g141_x3, .int j141_x5]) (rest := []) hB (c_X5_has l E g141_x3 j141_x5 _ hf) sB_X5_has wst_X5_has wml_X5_179 rfl (mx_pp hB hP [] rfl) hl.1 rfl (Nat.le_of_ble_eq_true rfl) dX5_layWays_158 ⟨Nat.zero_le _, Nat.zero_le _⟩) (fun r1 hf => ?_)
              refine lv_if_ne (tgt := 193) hx hb dX5_layWays_161 (by decide) (fun c161 => ?_) (fun c161 => ?_)
              · have hf := hf.1 c161
                refine lv_iconst hx hb dX5_layWays_193 kc_i_0 ?_
                refine lv_istore (lv' := [(4, .int 0), (0, .ref a_t), (1, .int g122_x1), (2, .int g122_x2), (3, .int g141_x3), (5, .int j141_x5)]) hx hb dX5_layWays_194 hl (by decide) rfl (fun ls hl => ?_)
                refine lv_iinc (v := j141_x5 + 1) (lv' := [(5, .int (j141_x5 + 1)), (4, .int 0), (0, .ref a_t), (1, .int g122_x1), (2, .int g122_x2), (3, .int g141_x3)]) hx hb dX5_layWays_196 hl (k := 5) rfl (by rw [kc_i_1]) (by decide) rfl (fun ls hl => ?_)
                refine lv_goto (tgt := 141) hx hb dX5_layWays_199 (by decide) ?_
                exact ih_141 0 (j141_x5 + 1) ls H locs hf (lv_sub hl [2, 3, 4, 5, 1, 0] rfl) hP hD hS
              · have hf := hf.2 c161
                refine lv_aload_n hx hb dX5_layWays_164 rfl (lv_at hl 0 rfl) ?_
                refine gf_X5_51 hB hP 0 rfl rfl dX5_layWays_165 ?_
                refine lv_iload_n hx hb dX5_layWays_168 rfl (lv_at hl 3 rfl) ?_
                refine lv_iconst hx hb dX5_layWays_169 kc_i_1 ?_
                refine lv_iload hx hb dX5_layWays_170 (lv_at hl 5 rfl) ?_
                refine lv_ishl hx hb dX5_layWays_172 ?_
                refine lv_ior hx hb dX5_layWays_173 ?_
                obtain ⟨h_in, hf⟩ := hf
                refine va_zald hx hb hB.K hP 1 2 rfl rfl h_in dX5_layWays_174 ?_
                refine lv_if_eq (tgt := 193) hx hb dX5_layWays_175 (by decide) (fun c175 => ?_) (fun c175 => ?_)
                · have hf := hf.1 c175
                  refine lv_iconst hx hb dX5_layWays_193 kc_i_0 ?_
                  refine lv_istore (lv' := [(4, .int 0), (0, .ref a_t), (1, .int g122_x1), (2, .int g122_x2), (3, .int g141_x3), (5, .int j141_x5)]) hx hb dX5_layWays_194 hl (by decide) rfl (fun ls hl => ?_)
                  refine lv_iinc (v := j141_x5 + 1) (lv' := [(5, .int (j141_x5 + 1)), (4, .int 0), (0, .ref a_t), (1, .int g122_x1), (2, .int g122_x2), (3, .int g141_x3)]) hx hb dX5_layWays_196 hl (k := 5) rfl (by rw [kc_i_1]) (by decide) rfl (fun ls hl => ?_)
                  refine lv_goto (tgt := 141) hx hb dX5_layWays_199 (by decide) ?_
                  exact ih_141 0 (j141_x5 + 1) ls H locs hf (lv_sub hl [2, 3, 4, 5, 1, 0] rfl) hP hD hS
                · have hf := hf.2 c175
                  refine lv_aload_n hx hb dX5_layWays_178 rfl (lv_at hl 0 rfl) ?_
                  refine lv_iload hx hb dX5_layWays_179 (lv_at hl 5 rfl) ?_
                  refine lv_iload_n hx hb dX5_layWays_181 rfl (lv_at hl 3 rfl) ?_
                  refine lv_iload_n hx hb dX5_layWays_182 rfl (lv_at hl 1 rfl) ?_
                  refine mx_gi (mx_runV (As := [.int j141_x5, .int g141_x3, .int g122_x1]) (rest := []) hB (c_X5_whyBy l E a_t a_storey a_wind a_pair a_text a_read a_now a_image a_isKept a_row a_sight a_ways a_ends a_tried v_storeys v_jacks v_soft v_pairs v_bytes v_position v_tokenAt v_token v_digits v_number v_faultAt v_readMany v_readStoreys v_readPairs v_rows v_sights v_storey v_pair j141_x5 g141_x3 g122_x1 _ hf) sB_X5_whyBy sV_X5_whyBy wml_X5_196 rfl (mx_ppV hB hP [0, 2, 3] rfl 5 rfl rfl rfl) hl.1 rfl (Nat.le_of_ble_eq_true rfl) dX5_layWays_183 ⟨Nat.zero_le _, Nat.zero_le _⟩) (fun r2 hf => ?_)
                  refine lv_if_ne (tgt := 193) hx hb dX5_layWays_186 (by decide) (fun c186 => ?_) (fun c186 => ?_)
                  · have hf := hf.1 c186
                    refine lv_iconst hx hb dX5_layWays_193 kc_i_0 ?_
                    refine lv_istore (lv' := [(4, .int 0), (0, .ref a_t), (1, .int g122_x1), (2, .int g122_x2), (3, .int g141_x3), (5, .int j141_x5)]) hx hb dX5_layWays_194 hl (by decide) rfl (fun ls hl => ?_)
                    refine lv_iinc (v := j141_x5 + 1) (lv' := [(5, .int (j141_x5 + 1)), (4, .int 0), (0, .ref a_t), (1, .int g122_x1), (2, .int g122_x2), (3, .int g141_x3)]) hx hb dX5_layWays_196 hl (k := 5) rfl (by rw [kc_i_1]) (by decide) rfl (fun ls hl => ?_)
                    refine lv_goto (tgt := 141) hx hb dX5_layWays_199 (by decide) ?_
                    exact ih_141 0 (j141_x5 + 1) ls H locs hf (lv_sub hl [2, 3, 4, 5, 1, 0] rfl) hP hD hS
                  · have hf := hf.2 c186
                    refine lv_iconst hx hb dX5_layWays_189 kc_i_1 ?_
                    refine lv_goto (tgt := 194) hx hb dX5_layWays_190 (by decide) ?_
                    refine lv_istore (lv' := [(4, .int 1), (0, .ref a_t), (1, .int g122_x1), (2, .int g122_x2), (3, .int g141_x3), (5, .int j141_x5)]) hx hb dX5_layWays_194 hl (by decide) rfl (fun ls hl => ?_)
                    refine lv_iinc (v := j141_x5 + 1) (lv' := [(5, .int (j141_x5 + 1)), (4, .int 1), (0, .ref a_t), (1, .int g122_x1), (2, .int g122_x2), (3, .int g141_x3)]) hx hb dX5_layWays_196 hl (k := 5) rfl (by rw [kc_i_1]) (by decide) rfl (fun ls hl => ?_)
                    refine lv_goto (tgt := 141) hx hb dX5_layWays_199 (by decide) ?_
                    exact ih_141 1 (j141_x5 + 1) ls H locs hf (lv_sub hl [2, 3, 4, 5, 1, 0] rfl) hP hD hS
      have J_136 : ∀ (j136_x3 : Int32) (j136_k0 : Int32) (j136_v_ends : (Nat → Int32)) (ls : Array Slot) (H : Heap) (locs : List Loc), f_X5_layWays_136 v_storeys v_storey v_pairs v_pair (mx_l2 (f_X5_layWays_122 v_storeys v_storey v_pairs v_pair post g122_x1 g122_x2 g122_v_ways) n_122) post g122_x1 g122_x2 j136_x3 j136_k0 j136_v_ends g122_v_ways → lv_has ls 6 [(0, .ref a_t), (1, .int g122_x1), (2, .int g122_x2), (3, .int j136_x3)] → va_P E.1 vwCl (w_X5_layWays E a_t a_storey a_wind a_pair a_text a_read a_now a_image a_isKept a_row a_sight a_ways a_ends a_tried v_storeys v_jacks v_soft v_pairs v_bytes v_position v_tokenAt v_token v_digits v_number v_faultAt v_readMany v_readStoreys v_readPairs v_rows v_sights j136_v_ends v_storey v_pair g122_v_ways) H → va_D A (w_X5_layWays E a_t a_storey a_wind a_pair a_text a_read a_now a_image a_isKept a_row a_sight a_ways a_ends a_tried v_storeys v_jacks v_soft v_pairs v_bytes v_position v_tokenAt v_token v_digits v_number v_faultAt v_readMany v_readStoreys v_readPairs v_rows v_sights j136_v_ends v_storey v_pair g122_v_ways) → va_S A s.heap H locs → W p l e rm_X5_layWays s m args below meth c H locs 0 0 Q (F0 m 136 ls [.int j136_k0]) := by
        intro j136_x3 j136_k0 j136_v_ends ls H locs hf hl hP hD hS
        refine lv_istore (lv' := [(4, .int j136_k0), (0, .ref a_t), (1, .int g122_x1), (2, .int g122_x2), (3, .int j136_x3)]) hx hb dX5_layWays_136 hl (by decide) rfl (fun ls hl => ?_)
        refine lv_iconst hx hb dX5_layWays_138 kc_i_0 ?_
        refine lv_istore (lv' := [(5, .int 0), (4, .int j136_k0), (0, .ref a_t), (1, .int g122_x1), (2, .int g122_x2), (3, .int j136_x3)]) hx hb dX5_layWays_139 hl (by decide) rfl (fun ls hl => ?_)
        obtain ⟨n9, hf⟩ := hf
        exact L_141 j136_x3 j136_v_ends n9 j136_k0 0 ls H locs hf (lv_sub hl [2, 3, 4, 5, 1, 0] rfl) hP hD hS
      intro j122_x3 j122_v_ends ls H locs hf hl hP hD hS
      replace hf : f_X5_layWays_122 v_storeys v_storey v_pairs v_pair post g122_x1 g122_x2 g122_v_ways (mx_l2 (f_X5_layWays_122 v_storeys v_storey v_pairs v_pair post g122_x1 g122_x2 g122_v_ways) n_122) j122_x3 j122_v_ends := hf
      refine lv_iload_n hx hb dX5_layWays_122 rfl (lv_at hl 3 rfl) ?_
      refine lv_if_lt (tgt := 216) hx hb dX5_layWays_123 (by decide) (fun c123 => ?_) (fun c123 => ?_)
      · have hf := hf.1 c123
        exact hRet (j122_v_ends, g122_v_ways) 216 ls H locs dX5_layWays_216 hf hP hS
      · have hf := hf.2 c123
        refine lv_iload_n hx hb dX5_layWays_126 rfl (lv_at hl 3 rfl) ?_
        refine lv_iload_n hx hb dX5_layWays_127 rfl (lv_at hl 2 rfl) ?_
        refine lv_icmp_ne (tgt := 135) hx hb dX5_layWays_128 (by decide) (fun c128 => ?_) (fun c128 => ?_)
        · have hf := hf.1 c128
          refine lv_iconst hx hb dX5_layWays_135 kc_i_0 ?_
          exact J_136 j122_x3 0 j122_v_ends ls H locs hf (lv_sub hl [0, 1, 2, 3] rfl) hP hD hS
        · have hf := hf.2 c128
          refine lv_iconst hx hb dX5_layWays_131 kc_i_1 ?_
          refine lv_goto (tgt := 136) hx hb dX5_layWays_132 (by decide) ?_
          exact J_136 j122_x3 1 j122_v_ends ls H locs hf (lv_sub hl [0, 1, 2, 3] rfl) hP hD hS
  have J_120 : ∀ (j120_x1 : Int32) (j120_x2 : Int32) (j120_v_ends : (Nat → Int32)) (j120_v_ways : (Nat → Int32)) (ls : Array Slot) (H : Heap) (locs : List Loc), f_X5_layWays_120 v_storeys v_storey v_pairs v_pair post j120_x1 j120_x2 j120_v_ends j120_v_ways → lv_has ls 6 [(0, .ref a_t), (1, .int j120_x1), (2, .int j120_x2)] → va_P E.1 vwCl (w_X5_layWays E a_t a_storey a_wind a_pair a_text a_read a_now a_image a_isKept a_row a_sight a_ways a_ends a_tried v_storeys v_jacks v_soft v_pairs v_bytes v_position v_tokenAt v_token v_digits v_number v_faultAt v_readMany v_readStoreys v_readPairs v_rows v_sights j120_v_ends v_storey v_pair j120_v_ways) H → va_D A (w_X5_layWays E a_t a_storey a_wind a_pair a_text a_read a_now a_image a_isKept a_row a_sight a_ways a_ends a_tried v_storeys v_jacks v_soft v_pairs v_bytes v_position v_tokenAt v_token v_digits v_number v_faultAt v_readMany v_readStoreys v_readPairs v_rows v_sights j120_v_ends v_storey v_pair j120_v_ways) → va_S A s.heap H locs → W p l e rm_X5_layWays s m args below meth c H locs 0 0 Q (F0 m 120 ls []) := by
    intro j120_x1 j120_x2 j120_v_ends j120_v_ways ls H locs hf hl hP hD hS
    refine lv_iload_n hx hb dX5_layWays_120 rfl (lv_at hl 2 rfl) ?_
    refine lv_istore_n (lv' := [(3, .int j120_x2), (0, .ref a_t), (1, .int j120_x1), (2, .int j120_x2)]) hx hb dX5_layWays_121 rfl hl (by decide) rfl (fun ls hl => ?_)
    obtain ⟨n9, hf⟩ := hf
    exact L_122 j120_x1 j120_x2 j120_v_ways n9 j120_x2 j120_v_ends ls H locs hf (lv_sub hl [1, 2, 3, 0] rfl) hP hD hS
  have L_11 : ∀ (g11_x1 : Int32) (g11_x2 : Int32) (g11_v_ends : (Nat → Int32)) (n : Nat) (j11_x3 : Int32) (j11_v_ways : (Nat → Int32)) (ls : Array Slot) (H : Heap) (locs : List Loc), mx_l2 (f_X5_layWays_11 v_storeys v_storey v_pairs v_pair post g11_x1 g11_x2 g11_v_ends) n j11_x3 j11_v_ways → lv_has ls 6 [(0, .ref a_t), (1, .int g11_x1), (2, .int g11_x2), (3, .int j11_x3)] → va_P E.1 vwCl (w_X5_layWays E a_t a_storey a_wind a_pair a_text a_read a_now a_image a_isKept a_row a_sight a_ways a_ends a_tried v_storeys v_jacks v_soft v_pairs v_bytes v_position v_tokenAt v_token v_digits v_number v_faultAt v_readMany v_readStoreys v_readPairs v_rows v_sights g11_v_ends v_storey v_pair j11_v_ways) H → va_D A (w_X5_layWays E a_t a_storey a_wind a_pair a_text a_read a_now a_image a_isKept a_row a_sight a_ways a_ends a_tried v_storeys v_jacks v_soft v_pairs v_bytes v_position v_tokenAt v_token v_digits v_number v_faultAt v_readMany v_readStoreys v_readPairs v_rows v_sights g11_v_ends v_storey v_pair j11_v_ways) → va_S A s.heap H locs → W p l e rm_X5_layWays s m args below meth c H locs 0 0 Q (F0 m 11 ls []) := by
    intro g11_x1 g11_x2 g11_v_ends n_11
    induction n_11 with
    | zero =>
      intro j11_x3 j11_v_ways ls H locs hf hl hP hD hS
      exact False.elim hf
    | succ n_11 ih_11 =>
      have L_34 : ∀ (g34_x3 : Int32) (n : Nat) (j34_x4 : Int32) (j34_v_ways : (Nat → Int32)) (ls : Array Slot) (H : Heap) (locs : List Loc), mx_l2 (f_X5_layWays_34 v_storeys v_storey v_pairs v_pair (mx_l2 (f_X5_layWays_11 v_storeys v_storey v_pairs v_pair post g11_x1 g11_x2 g11_v_ends) n_11) post g11_x1 g11_x2 g34_x3 g11_v_ends) n j34_x4 j34_v_ways → lv_has ls 6 [(0, .ref a_t), (1, .int g11_x1), (2, .int g11_x2), (3, .int g34_x3), (4, .int j34_x4)] → va_P E.1 vwCl (w_X5_layWays E a_t a_storey a_wind a_pair a_text a_read a_now a_image a_isKept a_row a_sight a_ways a_ends a_tried v_storeys v_jacks v_soft v_pairs v_bytes v_position v_tokenAt v_token v_digits v_number v_faultAt v_readMany v_readStoreys v_readPairs v_rows v_sights g11_v_ends v_storey v_pair j34_v_ways) H → va_D A (w_X5_layWays E a_t a_storey a_wind a_pair a_text a_read a_now a_image a_isKept a_row a_sight a_ways a_ends a_tried v_storeys v_jacks v_soft v_pairs v_bytes v_position v_tokenAt v_token v_digits v_number v_faultAt v_readMany v_readStoreys v_readPairs v_rows v_sights g11_v_ends v_storey v_pair j34_v_ways) → va_S A s.heap H locs → W p l e rm_X5_layWays s m args below meth c H locs 0 0 Q (F0 m 34 ls []) := by
        intro g34_x3 n_34
        induction n_34 with
        | zero =>
          intro j34_x4 j34_v_ways ls H locs hf hl hP hD hS
          exact False.elim hf
        | succ n_34 ih_34 =>
          have J_106 : ∀ (j106_x4 : Int32) (j106_k1 : Int32) (j106_k2 : Int32) (j106_k3 : Int32) (j106_v_ways : (Nat → Int32)) (ls : Array Slot) (H : Heap) (locs : List Loc), f_X5_layWays_106 v_storeys v_storey v_pairs v_pair (mx_l2 (f_X5_layWays_11 v_storeys v_storey v_pairs v_pair post g11_x1 g11_x2 g11_v_ends) n_11) (mx_l2 (f_X5_layWays_34 v_storeys v_storey v_pairs v_pair (mx_l2 (f_X5_layWays_11 v_storeys v_storey v_pairs v_pair post g11_x1 g11_x2 g11_v_ends) n_11) post g11_x1 g11_x2 g34_x3 g11_v_ends) n_34) post g11_x1 g11_x2 g34_x3 j106_x4 j106_k1 j106_k2 j106_k3 g11_v_ends j106_v_ways → lv_has ls 6 [(0, .ref a_t), (1, .int g11_x1), (2, .int g11_x2), (3, .int g34_x3), (4, .int j106_x4)] → va_P E.1 vwCl (w_X5_layWays E a_t a_storey a_wind a_pair a_text a_read a_now a_image a_isKept a_row a_sight a_ways a_ends a_tried v_storeys v_jacks v_soft v_pairs v_bytes v_position v_tokenAt v_token v_digits v_number v_faultAt v_readMany v_readStoreys v_readPairs v_rows v_sights g11_v_ends v_storey v_pair j106_v_ways) H → va_D A (w_X5_layWays E a_t a_storey a_wind a_pair a_text a_read a_now a_image a_isKept a_row a_sight a_ways a_ends a_tried v_storeys v_jacks v_soft v_pairs v_bytes v_position v_tokenAt v_token v_digits v_number v_faultAt v_readMany v_readStoreys v_readPairs v_rows v_sights g11_v_ends v_storey v_pair j106_v_ways) → va_S A s.heap H locs → W p l e rm_X5_layWays s m args below meth c H locs 0 0 Q (F0 m 106 ls [.int j106_k3, .int j106_k2, .int j106_k1, .ref a_ways]) := by
            intro j106_x4 j106_k1 j106_k2 j106_k3 j106_v_ways ls H locs hf hl hP hD hS
            refine lv_iadd hx hb dX5_layWays_106 ?_
            obtain ⟨h_in, hf⟩ := hf
            refine va_iast hx hb hB.K hP hD hS 4 0 rfl rfl h_in dX5_layWays_107 (fun H locs hP hD hS => ?_)
            have hP : va_P E.1 vwCl (w_X5_layWays E a_t a_storey a_wind a_pair a_text a_read a_now a_image a_isKept a_row a_sight a_ways a_ends a_tried v_storeys v_jacks v_soft v_pairs v_bytes v_position v_tokenAt v_token v_digits v_number v_faultAt v_readMany v_readStoreys v_readPairs v_rows v_sights g11_v_ends v_storey v_pair (upd j106_v_ways j106_k1.toNatClampNeg (j106_k2 + j106_k3))) H := hP
            have hD : va_D A (w_X5_layWays E a_t a_storey a_wind a_pair a_text a_read a_now a_image a_isKept a_row a_sight a_ways a_ends a_tried v_storeys v_jacks v_soft v_pairs v_bytes v_position v_tokenAt v_token v_digits v_number v_faultAt v_readMany v_readStoreys v_readPairs v_rows v_sights g11_v_ends v_storey v_pair (upd j106_v_ways j106_k1.toNatClampNeg (j106_k2 + j106_k3))) := hD
            refine lv_iinc (v := j106_x4 + 1) (lv' := [(4, .int (j106_x4 + 1)), (0, .ref a_t), (1, .int g11_x1), (2, .int g11_x2), (3, .int g34_x3)]) hx hb dX5_layWays_108 hl (k := 4) rfl (by rw [kc_i_1]) (by decide) rfl (fun ls hl => ?_)
            refine lv_goto (tgt := 34) hx hb dX5_layWays_111 (by decide) ?_
            exact ih_34 (j106_x4 + 1) (upd j106_v_ways j106_k1.toNatClampNeg (j106_k2 + j106_k3)) ls H locs hf (lv_sub hl [1, 2, 3, 4, 0] rfl) hP hD hS
          have J_75 : ∀ (j75_x4 : Int32) (j75_k0 : Int32) (j75_v_ways : (Nat → Int32)) (ls : Array Slot) (H : Heap) (locs : List Loc), f_X5_layWays_75 v_storeys v_storey v_pairs v_pair (mx_l2 (f_X5_layWays_11 v_storeys v_storey v_pairs v_pair post g11_x1 g11_x2 g11_v_ends) n_11) (mx_l2 (f_X5_layWays_34 v_storeys v_storey v_pairs v_pair (mx_l2 (f_X5_layWays_11 v_storeys v_storey v_pairs v_pair post g11_x1 g11_x2 g11_v_ends) n_11) post g11_x1 g11_x2 g34_x3 g11_v_ends) n_34) post g11_x1 g11_x2 g34_x3 j75_x4 j75_k0 g11_v_ends j75_v_ways → lv_has ls 6 [(0, .ref a_t), (1, .int g11_x1), (2, .int g11_x2), (3, .int g34_x3), (4, .int j75_x4)] → va_P E.1 vwCl (w_X5_layWays E a_t a_storey a_wind a_pair a_text a_read a_now a_image a_isKept a_row a_sight a_ways a_ends a_tried v_storeys v_jacks v_soft v_pairs v_bytes v_position v_tokenAt v_token v_digits v_number v_faultAt v_readMany v_readStoreys v_readPairs v_rows v_sights g11_v_ends v_storey v_pair j75_v_ways) H → va_D A (w_X5_layWays E a_t a_storey a_wind a_pair a_text a_read a_now a_image a_isKept a_row a_sight a_ways a_ends a_tried v_storeys v_jacks v_soft v_pairs v_bytes v_position v_tokenAt v_token v_digits v_number v_faultAt v_readMany v_readStoreys v_readPairs v_rows v_sights g11_v_ends v_storey v_pair j75_v_ways) → va_S A s.heap H locs → W p l e rm_X5_layWays s m args below meth c H locs 0 0 Q (F0 m 75 ls [.int j75_k0]) := by
            intro j75_x4 j75_k0 j75_v_ways ls H locs hf hl hP hD hS
            refine lv_istore (lv' := [(5, .int j75_k0), (0, .ref a_t), (1, .int g11_x1), (2, .int g11_x2), (3, .int g34_x3), (4, .int j75_x4)]) hx hb dX5_layWays_75 hl (by decide) rfl (fun ls hl => ?_)
            refine lv_aload_n hx hb dX5_layWays_77 rfl (lv_at hl 1 rfl) ?_
            refine gf_X5_48 hB hP 0 rfl rfl dX5_layWays_78 ?_
            refine lv_iload_n hx hb dX5_layWays_81 rfl (lv_at hl 4 rfl) ?_
            refine lv_dup2_11 hx hb dX5_layWays_82 rfl rfl ?_
            obtain ⟨h_in, hf⟩ := hf
            refine va_iald hx hb hB.K hP 4 0 rfl rfl h_in dX5_layWays_83 ?_
            refine lv_iload hx hb dX5_layWays_84 (lv_at hl 0 rfl) ?_
            refine lv_if_eq (tgt := 105) hx hb dX5_layWays_86 (by decide) (fun c86 => ?_) (fun c86 => ?_)
            · have hf := hf.1 c86
              refine lv_iconst hx hb dX5_layWays_105 kc_i_0 ?_
              exact J_106 j75_x4 g34_x3 (j75_v_ways g34_x3.toNatClampNeg) 0 j75_v_ways ls H locs hf (lv_sub hl [1, 2, 3, 4, 5] rfl) hP hD hS
            · have hf := hf.2 c86
              refine lv_aload_n hx hb dX5_layWays_89 rfl (lv_at hl 1 rfl) ?_
              refine gf_X5_48 hB hP 0 rfl rfl dX5_layWays_90 ?_
              refine lv_iload_n hx hb dX5_layWays_93 rfl (lv_at hl 4 rfl) ?_
              refine lv_iconst hx hb dX5_layWays_94 kc_i_1 ?_
              refine lv_iload hx hb dX5_layWays_95 (lv_at hl 5 rfl) ?_
              refine lv_ishl hx hb dX5_layWays_97 ?_
              refine lv_iconst hx hb dX5_layWays_98 kc_i_m1 ?_
              refine lv_ixor hx hb dX5_layWays_99 ?_
              refine lv_iand hx hb dX5_layWays_100 ?_
              obtain ⟨h_in, hf⟩ := hf
              refine va_iald hx hb hB.K hP 4 0 rfl rfl h_in dX5_layWays_101 ?_
              refine lv_goto (tgt := 106) hx hb dX5_layWays_102 (by decide) ?_
              exact J_106 j75_x4 g34_x3 (j75_v_ways g34_x3.toNatClampNeg) (j75_v_ways (g34_x3 &&& ((1 <<< (j75_x4 &&& 31)) ^^^ (-1))).toNatClampNeg) j75_v_ways ls H locs hf (lv_sub hl [1, 2, 3, 4, 5] rfl) hP hD hS
          have J_74 : ∀ (j74_x4 : Int32) (j74_v_ways : (Nat → Int32)) (ls : Array Slot) (H : Heap) (locs : List Loc), f_X5_layWays_74 v_storeys v_storey v_pairs v_pair (mx_l2 (f_X5_layWays_11 v_storeys v_storey v_pairs v_pair post g11_x1 g11_x2 g11_v_ends) n_11) (mx_l2 (f_X5_layWays_34 v_storeys v_storey v_pairs v_pair (mx_l2 (f_X5_layWays_11 v_storeys v_storey v_pairs v_pair post g11_x1 g11_x2 g11_v_ends) n_11) post g11_x1 g11_x2 g34_x3 g11_v_ends) n_34) post g11_x1 g11_x2 g34_x3 j74_x4 g11_v_ends j74_v_ways → lv_has ls 6 [(0, .ref a_t), (1, .int g11_x1), (2, .int g11_x2), (3, .int g34_x3), (4, .int j74_x4)] → va_P E.1 vwCl (w_X5_layWays E a_t a_storey a_wind a_pair a_text a_read a_now a_image a_isKept a_row a_sight a_ways a_ends a_tried v_storeys v_jacks v_soft v_pairs v_bytes v_position v_tokenAt v_token v_digits v_number v_faultAt v_readMany v_readStoreys v_readPairs v_rows v_sights g11_v_ends v_storey v_pair j74_v_ways) H → va_D A (w_X5_layWays E a_t a_storey a_wind a_pair a_text a_read a_now a_image a_isKept a_row a_sight a_ways a_ends a_tried v_storeys v_jacks v_soft v_pairs v_bytes v_position v_tokenAt v_token v_digits v_number v_faultAt v_readMany v_readStoreys v_readPairs v_rows v_sights g11_v_ends v_storey v_pair j74_v_ways) → va_S A s.heap H locs → W p l e rm_X5_layWays s m args below meth c H locs 0 0 Q (F0 m 74 ls []) := by
            intro j74_x4 j74_v_ways ls H locs hf hl hP hD hS
            refine lv_iconst hx hb dX5_layWays_74 kc_i_0 ?_
            exact J_75 j74_x4 0 j74_v_ways ls H locs hf (lv_sub hl [0, 1, 2, 3, 4] rfl) hP hD hS
          intro j34_x4 j34_v_ways ls H locs hf hl hP hD hS
          replace hf : f_X5_layWays_34 v_storeys v_storey v_pairs v_pair (mx_l2 (f_X5_layWays_11 v_storeys v_storey v_pairs v_pair post g11_x1 g11_x2 g11_v_ends) n_11) post g11_x1 g11_x2 g34_x3 g11_v_ends (mx_l2 (f_X5_layWays_34 v_storeys v_storey v_pairs v_pair (mx_l2 (f_X5_layWays_11 v_storeys v_storey v_pairs v_pair post g11_x1 g11_x2 g11_v_ends) n_11) post g11_x1 g11_x2 g34_x3 g11_v_ends) n_34) j34_x4 j34_v_ways := hf
          refine lv_iload hx hb dX5_layWays_34 (lv_at hl 4 rfl) ?_
          refine lv_aload_n hx hb dX5_layWays_36 rfl (lv_at hl 0 rfl) ?_
          refine gf_X5_57 hB hP 0 rfl rfl dX5_layWays_37 ?_
          refine lv_icmp_ge (tgt := 114) hx hb dX5_layWays_40 (by decide) (fun c40 => ?_) (fun c40 => ?_)
          · have hf := hf.1 c40
            refine lv_iinc (v := g34_x3 + 1) (lv' := [(3, .int (g34_x3 + 1)), (0, .ref a_t), (1, .int g11_x1), (2, .int g11_x2), (4, .int j34_x4)]) hx hb dX5_layWays_114 hl (k := 3) rfl (by rw [kc_i_1]) (by decide) rfl (fun ls hl => ?_)
            refine lv_goto (tgt := 11) hx hb dX5_layWays_117 (by decide) ?_
            exact ih_11 (g34_x3 + 1) j34_v_ways ls H locs hf (lv_sub hl [1, 2, 3, 0] rfl) hP hD hS
          · have hf := hf.2 c40
            refine lv_iload_n hx hb dX5_layWays_43 rfl (lv_at hl 3 rfl) ?_
            refine lv_iload hx hb dX5_layWays_44 (lv_at hl 4 rfl) ?_
            refine mx_gi (mx_runS (As := [.int g34_x3, .int j34_x4]) (rest := []) hB (c_X5_has l E g34_x3 j34_x4 _ hf) sB_X5_has wst_X5_has wml_X5_179 rfl (mx_pp hB hP [] rfl) hl.1 rfl (Nat.le_of_ble_eq_true rfl) dX5_layWays_46 ⟨Nat.zero_le _, Nat.zero_le _⟩) (fun r1 hf => ?_)
            refine lv_if_eq (tgt := 74) hx hb dX5_layWays_49 (by decide) (fun c49 => ?_) (fun c49 => ?_)
            · have hf := hf.1 c49
              exact J_74 j34_x4 j34_v_ways ls H locs hf (lv_sub hl [0, 1, 2, 3, 4] rfl) hP hD hS
            · have hf := hf.2 c49
              refine lv_aload_n hx hb dX5_layWays_52 rfl (lv_at hl 0 rfl) ?_
              refine lv_iload hx hb dX5_layWays_53 (lv_at hl 4 rfl) ?_
              refine lv_iload_n hx hb dX5_layWays_55 rfl (lv_at hl 3 rfl) ?_
              refine lv_iconst hx hb dX5_layWays_56 kc_i_1 ?_
              refine lv_iload hx hb dX5_layWays_57 (lv_at hl 4 rfl) ?_
              refine lv_ishl hx hb dX5_layWays_59 ?_
              refine lv_iconst hx hb dX5_layWays_60 kc_i_m1 ?_
              refine lv_ixor hx hb dX5_layWays_61 ?_
              refine lv_iand hx hb dX5_layWays_62 ?_
              refine lv_iload_n hx hb dX5_layWays_63 rfl (lv_at hl 1 rfl) ?_
              refine mx_gi (mx_runV (As := [.int j34_x4, .int (g34_x3 &&& ((1 <<< (j34_x4 &&& 31)) ^^^ (-1))), .int g11_x1]) (rest := []) hB (c_X5_whyBy l E a_t a_storey a_wind a_pair a_text a_read a_now a_image a_isKept a_row a_sight a_ways a_ends a_tried v_storeys v_jacks v_soft v_pairs v_bytes v_position v_tokenAt v_token v_digits v_number v_faultAt v_readMany v_readStoreys v_readPairs v_rows v_sights v_storey v_pair j34_x4 (g34_x3 &&& ((1 <<< (j34_x4 &&& 31)) ^^^ (-1))) g11_x1 _ hf) sB_X5_whyBy sV_X5_whyBy wml_X5_196 rfl (mx_ppV hB hP [0, 2, 3] rfl 5 rfl rfl rfl) hl.1 rfl (Nat.le_of_ble_eq_true rfl) dX5_layWays_64 ⟨Nat.zero_le _, Nat.zero_le _⟩) (fun r2 hf => ?_)
              refine lv_if_ne (tgt := 74) hx hb dX5_layWays_67 (by decide) (fun c67 => ?_) (fun c67 => ?_)
              · have hf := hf.1 c67
                exact J_74 j34_x4 j34_v_ways ls H locs hf (lv_sub hl [0, 1, 2, 3, 4] rfl) hP hD hS
              · have hf := hf.2 c67
                refine lv_iconst hx hb dX5_layWays_70 kc_i_1 ?_
                refine lv_goto (tgt := 75) hx hb dX5_layWays_71 (by decide) ?_
                exact J_75 j34_x4 1 j34_v_ways ls H locs hf (lv_sub hl [0, 1, 2, 3, 4] rfl) hP hD hS
      have J_30 : ∀ (j30_x3 : Int32) (j30_k1 : Int32) (j30_k2 : Int32) (j30_v_ways : (Nat → Int32)) (ls : Array Slot) (H : Heap) (locs : List Loc), f_X5_layWays_30 v_storeys v_storey v_pairs v_pair (mx_l2 (f_X5_layWays_11 v_storeys v_storey v_pairs v_pair post g11_x1 g11_x2 g11_v_ends) n_11) post g11_x1 g11_x2 j30_x3 j30_k1 j30_k2 g11_v_ends j30_v_ways → lv_has ls 6 [(0, .ref a_t), (1, .int g11_x1), (2, .int g11_x2), (3, .int j30_x3)] → va_P E.1 vwCl (w_X5_layWays E a_t a_storey a_wind a_pair a_text a_read a_now a_image a_isKept a_row a_sight a_ways a_ends a_tried v_storeys v_jacks v_soft v_pairs v_bytes v_position v_tokenAt v_token v_digits v_number v_faultAt v_readMany v_readStoreys v_readPairs v_rows v_sights g11_v_ends v_storey v_pair j30_v_ways) H → va_D A (w_X5_layWays E a_t a_storey a_wind a_pair a_text a_read a_now a_image a_isKept a_row a_sight a_ways a_ends a_tried v_storeys v_jacks v_soft v_pairs v_bytes v_position v_tokenAt v_token v_digits v_number v_faultAt v_readMany v_readStoreys v_readPairs v_rows v_sights g11_v_ends v_storey v_pair j30_v_ways) → va_S A s.heap H locs → W p l e rm_X5_layWays s m args below meth c H locs 0 0 Q (F0 m 30 ls [.int j30_k2, .int j30_k1, .ref a_ways]) := by
        intro j30_x3 j30_k1 j30_k2 j30_v_ways ls H locs hf hl hP hD hS
        obtain ⟨h_in, hf⟩ := hf
        refine va_iast hx hb hB.K hP hD hS 4 0 rfl rfl h_in dX5_layWays_30 (fun H locs hP hD hS => ?_)
        have hP : va_P E.1 vwCl (w_X5_layWays E a_t a_storey a_wind a_pair a_text a_read a_now a_image a_isKept a_row a_sight a_ways a_ends a_tried v_storeys v_jacks v_soft v_pairs v_bytes v_position v_tokenAt v_token v_digits v_number v_faultAt v_readMany v_readStoreys v_readPairs v_rows v_sights g11_v_ends v_storey v_pair (upd j30_v_ways j30_k1.toNatClampNeg j30_k2)) H := hP
        have hD : va_D A (w_X5_layWays E a_t a_storey a_wind a_pair a_text a_read a_now a_image a_isKept a_row a_sight a_ways a_ends a_tried v_storeys v_jacks v_soft v_pairs v_bytes v_position v_tokenAt v_token v_digits v_number v_faultAt v_readMany v_readStoreys v_readPairs v_rows v_sights g11_v_ends v_storey v_pair (upd j30_v_ways j30_k1.toNatClampNeg j30_k2)) := hD
        refine lv_iconst hx hb dX5_layWays_31 kc_i_0 ?_
        refine lv_istore (lv' := [(4, .int 0), (0, .ref a_t), (1, .int g11_x1), (2, .int g11_x2), (3, .int j30_x3)]) hx hb dX5_layWays_32 hl (by decide) rfl (fun ls hl => ?_)
        obtain ⟨n9, hf⟩ := hf
        exact L_34 j30_x3 n9 0 (upd j30_v_ways j30_k1.toNatClampNeg j30_k2) ls H locs hf (lv_sub hl [1, 2, 3, 4, 0] rfl) hP hD hS
      intro j11_x3 j11_v_ways ls H locs hf hl hP hD hS
      replace hf : f_X5_layWays_11 v_storeys v_storey v_pairs v_pair post g11_x1 g11_x2 g11_v_ends (mx_l2 (f_X5_layWays_11 v_storeys v_storey v_pairs v_pair post g11_x1 g11_x2 g11_v_ends) n_11) j11_x3 j11_v_ways := hf
      refine lv_iload_n hx hb dX5_layWays_11 rfl (lv_at hl 3 rfl) ?_
      refine lv_iload_n hx hb dX5_layWays_12 rfl (lv_at hl 2 rfl) ?_
      refine lv_icmp_gt (tgt := 120) hx hb dX5_layWays_13 (by decide) (fun c13 => ?_) (fun c13 => ?_)
      · have hf := hf.1 c13
        exact J_120 g11_x1 g11_x2 g11_v_ends j11_v_ways ls H locs hf (lv_sub hl [0, 1, 2] rfl) hP hD hS
      · have hf := hf.2 c13
        refine lv_aload_n hx hb dX5_layWays_16 rfl (lv_at hl 0 rfl) ?_
        refine gf_X5_48 hB hP 0 rfl rfl dX5_layWays_17 ?_
        refine lv_iload_n hx hb dX5_layWays_20 rfl (lv_at hl 3 rfl) ?_
        refine lv_iload_n hx hb dX5_layWays_21 rfl (lv_at hl 3 rfl) ?_
        refine lv_if_ne (tgt := 29) hx hb dX5_layWays_22 (by decide) (fun c22 => ?_) (fun c22 => ?_)
        · have hf := hf.1 c22
          refine lv_iconst hx hb dX5_layWays_29 kc_i_0 ?_
          exact J_30 j11_x3 j11_x3 0 j11_v_ways ls H locs hf (lv_sub hl [0, 1, 2, 3] rfl) hP hD hS
        · have hf := hf.2 c22
          refine lv_iconst hx hb dX5_layWays_25 kc_i_1 ?_
          refine lv_goto (tgt := 30) hx hb dX5_layWays_26 (by decide) ?_
          exact J_30 j11_x3 j11_x3 1 j11_v_ways ls H locs hf (lv_sub hl [0, 1, 2, 3] rfl) hP hD hS
  obtain ⟨H, locs, eH, eL⟩ : ∃ (H : Heap) (locs : List Loc), H = s.heap ∧ locs = [] := ⟨_, _, rfl, rfl⟩
  rw [← eH] at hP
  have hS : va_S A s.heap H locs := by rw [eH, eL]; exact hS
  show W p l e rm_X5_layWays s m args below meth c s.heap [] 0 0 Q (F0 m 0 ls [])
  rw [← eH, ← eL]
  refine lv_iconst hx hb dX5_layWays_0 kc_i_1 ?_
  refine lv_aload_n hx hb dX5_layWays_1 rfl (lv_at hl 0 rfl) ?_
  refine gf_X5_57 hB hP 0 rfl rfl dX5_layWays_2 ?_
  refine lv_ishl hx hb dX5_layWays_5 ?_
  refine lv_iconst hx hb dX5_layWays_6 kc_i_1 ?_
  refine lv_isub hx hb dX5_layWays_7 ?_
  refine lv_istore_n (lv' := [(2, .int ((1 <<< (v_storeys &&& 31)) - 1)), (0, .ref a_t), (1, .int x1)]) hx hb dX5_layWays_8 rfl hl (by decide) rfl (fun ls hl => ?_)
  refine lv_iconst hx hb dX5_layWays_9 kc_i_0 ?_
  refine lv_istore_n (lv' := [(3, .int 0), (2, .int ((1 <<< (v_storeys &&& 31)) - 1)), (0, .ref a_t), (1, .int x1)]) hx hb dX5_layWays_10 rfl hl (by decide) rfl (fun ls hl => ?_)
  obtain ⟨n9, hf⟩ := hf
  exact L_11 x1 ((1 <<< (v_storeys &&& 31)) - 1) v_ends n9 0 v_ways ls H locs hf (lv_sub hl [2, 3, 1, 0] rfl) hP hD hS
theorem c_X5_layWays (l : Launch) (E : mx_E) (a_t : Nat) (a_storey : Nat) (a_wind : Nat) (a_pair : Nat) (a_text : Nat) (a_read : Nat) (a_now : Nat) (a_image : Nat) (a_isKept : Nat) (a_row : Nat) (a_sight : Nat) (a_ways : Nat) (a_ends : Nat) (a_tried : Nat) (v_storeys : Int32) (v_jacks : Int32) (v_soft : Int32) (v_pairs : Int32) (v_bytes : Int32) (v_position : Int32) (v_tokenAt : Int32) (v_token : Int64) (v_digits : Int32) (v_number : Int32) (v_faultAt : Int32) (v_readMany : Int32) (v_readStoreys : Int32) (v_readPairs : Int32) (v_rows : Int32) (v_sights : Int32) (v_ends : (Nat → Int32)) (v_storey : (Nat → Int32)) (v_pair : (Nat → Int32)) (v_ways : (Nat → Int32)) (sz : Nat) (x1 : Int32) (post : (Nat → Int32) → (Nat → Int32) → Prop) (hf : f_X5_layWays v_storeys v_storey v_pairs v_pair v_ends v_ways x1 post) : Met l yX5_layWays (Cond.code yX5_layWays cX5_layWays 6 none :: mx_WS) rm_X5_layWays (va_Pc [.ref a_t, .int x1] (mx_Pw E (w_X5_layWays E a_t a_storey a_wind a_pair a_text a_read a_now a_image a_isKept a_row a_sight a_ways a_ends a_tried v_storeys v_jacks v_soft v_pairs v_bytes v_position v_tokenAt v_token v_digits v_number v_faultAt v_readMany v_readStoreys v_readPairs v_rows v_sights v_ends v_storey v_pair v_ways) sz)) (va_Qv (fun (u : (Nat → Int32) × (Nat → Int32)) => post u.1 u.2) (fun u t => va_P E.1 vwCl (w_X5_layWays E a_t a_storey a_wind a_pair a_text a_read a_now a_image a_isKept a_row a_sight a_ways a_ends a_tried v_storeys v_jacks v_soft v_pairs v_bytes v_position v_tokenAt v_token v_digits v_number v_faultAt v_readMany v_readStoreys v_readPairs v_rows v_sights u.1 v_storey v_pair u.2) t.heap) (va_A (w_X5_layWays E a_t a_storey a_wind a_pair a_text a_read a_now a_image a_isKept a_row a_sight a_ways a_ends a_tried v_storeys v_jacks v_soft v_pairs v_bytes v_position v_tokenAt v_token v_digits v_number v_faultAt v_readMany v_readStoreys v_readPairs v_rows v_sights v_ends v_storey v_pair v_ways) sz)) 0 0 (va_A (w_X5_layWays E a_t a_storey a_wind a_pair a_text a_read a_now a_image a_isKept a_row a_sight a_ways a_ends a_tried v_storeys v_jacks v_soft v_pairs v_bytes v_position v_tokenAt v_token v_digits v_number v_faultAt v_readMany v_readStoreys v_readPairs v_rows v_sights v_ends v_storey v_pair v_ways) sz) :=
  mx_metWv (by decide) rfl rfl (fun hB hP hD hA hRet ls hl => b_X5_layWays E a_t a_storey a_wind a_pair a_text a_read a_now a_image a_isKept a_row a_sight a_ways a_ends a_tried v_storeys v_jacks v_soft v_pairs v_bytes v_position v_tokenAt v_token v_digits v_number v_faultAt v_readMany v_readStoreys v_readPairs v_rows v_sights v_ends v_storey v_pair v_ways x1 post hB hP hD hA hRet hf ls hl)
def rm_X5_orders : Room := { frames := 4, cells := 0, slots := 0, locals := 95 }
set_option maxHeartbeats 4000000 in
set_option maxRecDepth 100000 in
theorem b_X5_orders {p : Program} {l : Launch} {e : Env} {s : State} {m : MethodId} {args : Array Value} {below : List Frame} {meth : Method} {c : Code} {Q : State → Prop} {A : Nat → Prop} (E : mx_E) (a_t : Nat) (a_storey : Nat) (a_wind : Nat) (a_pair : Nat) (a_text : Nat) (a_read : Nat) (a_now : Nat) (a_image : Nat) (a_isKept : Nat) (a_row : Nat) (a_sight : Nat) (a_ways : Nat) (a_ends : Nat) (a_tried : Nat) (v_storeys : Int32) (v_jacks : Int32) (v_soft : Int32) (v_pairs : Int32) (v_bytes : Int32) (v_position : Int32) (v_tokenAt : Int32) (v_token : Int64) (v_digits : Int32) (v_number : Int32) (v_faultAt : Int32) (v_readMany : Int32) (v_readStoreys : Int32) (v_readPairs : Int32) (v_rows : Int32) (v_sights : Int32) (v_ends : (Nat → Int32)) (v_storey : (Nat → Int32)) (v_pair : (Nat → Int32)) (v_ways : (Nat → Int32)) (x1 : Int32) (post : Int32 → (Nat → Int32) → (Nat → Int32) → Prop) (hB : mx_B p m c cX5_orders 7 s args RX5 E) (hP : va_P E.1 vwCl (w_X5_orders E a_t a_storey a_wind a_pair a_text a_read a_now a_image a_isKept a_row a_sight a_ways a_ends a_tried v_storeys v_jacks v_soft v_pairs v_bytes v_position v_tokenAt v_token v_digits v_number v_faultAt v_readMany v_readStoreys v_readPairs v_rows v_sights v_ends v_storey v_pair v_ways) s.heap) (hD : va_D A (w_X5_orders E a_t a_storey a_wind a_pair a_text a_read a_now a_image a_isKept a_row a_sight a_ways a_ends a_tried v_storeys v_jacks v_soft v_pairs v_bytes v_position v_tokenAt v_token v_digits v_number v_faultAt v_readMany v_readStoreys v_readPairs v_rows v_sights v_ends v_storey v_pair v_ways)) (hA : ∀ q : Nat, s.heap.size ≤ q → A q) (hRet : ∀ (v : Int32) (u : (Nat → Int32) × (Nat → Int32)) (pc : Nat) (ls : Array Slot) (H : Heap) (locs : List Loc), decode cX5_orders pc = .ok (.ireturn, 1) → post v u.1 u.2 → va_P E.1 vwCl (w_X5_orders E a_t a_storey a_wind a_pair a_text a_read a_now a_image a_isKept a_row a_sight a_ways a_ends a_tried v_storeys v_jacks v_soft v_pairs v_bytes v_position v_tokenAt v_token v_digits v_number v_faultAt v_readMany v_readStoreys v_readPairs v_rows v_sights u.1 v_storey v_pair u.2) H → va_S A s.heap H locs → W p l e rm_X5_orders s m args below meth c H locs 0 0 Q (F0 m pc ls [.int v])) (hf : f_X5_orders v_jacks v_storeys v_storey v_pairs v_pair v_ends v_ways x1 post) (ls : Array Slot) (hl : lv_has ls 7 [(0, .ref a_t), (1, .int x1)]) : W p l e rm_X5_orders s m args below meth c s.heap [] 0 0 Q (F0 m 0 ls []) := by
  have hx := hB.x
  have hb := hB.b
  have hS : va_S A s.heap s.heap [] := va_S.rf
  have L_59 : ∀ (g59_x1 : Int32) (g59_v_ends : (Nat → Int32)) (g59_v_ways : (Nat → Int32)) (n : Nat) (j59_x3 : Int32) (j59_x4 : Int32) (j59_x5 : Int32) (ls : Array Slot) (H : Heap) (locs : List Loc), mx_l3 (f_X5_orders_59 v_jacks v_storeys v_storey v_pairs v_pair post g59_x1 g59_v_ends g59_v_ways) n j59_x3 j59_x4 j59_x5 → lv_has ls 7 [(0, .ref a_t), (1, .int g59_x1), (3, .int j59_x3), (4, .int j59_x4), (5, .int j59_x5)] → va_P E.1 vwCl (w_X5_orders E a_t a_storey a_wind a_pair a_text a_read a_now a_image a_isKept a_row a_sight a_ways a_ends a_tried v_storeys v_jacks v_soft v_pairs v_bytes v_position v_tokenAt v_token v_digits v_number v_faultAt v_readMany v_readStoreys v_readPairs v_rows v_sights g59_v_ends v_storey v_pair g59_v_ways) H → va_D A (w_X5_orders E a_t a_storey a_wind a_pair a_text a_read a_now a_image a_isKept a_row a_sight a_ways a_ends a_tried v_storeys v_jacks v_soft v_pairs v_bytes v_position v_tokenAt v_token v_digits v_number v_faultAt v_readMany v_readStoreys v_readPairs v_rows v_sights g59_v_ends v_storey v_pair g59_v_ways) → va_S A s.heap H locs → W p l e rm_X5_orders s m args below meth c H locs 0 0 Q (F0 m 59 ls []) := by
    intro g59_x1 g59_v_ends g59_v_ways n_59
    induction n_59 with
    | zero =>
      intro j59_x3 j59_x4 j59_x5 ls H locs hf hl hP hD hS
      exact False.elim hf
    | succ n_59 ih_59 =>
      have J_124 : ∀ (j124_x3 : Int32) (j124_x4 : Int32) (j124_x5 : Int32) (ls : Array Slot) (H : Heap) (locs : List Loc), f_X5_orders_124 v_jacks v_storeys v_storey v_pairs v_pair (mx_l3 (f_X5_orders_59 v_jacks v_storeys v_storey v_pairs v_pair post g59_x1 g59_v_ends g59_v_ways) n_59) post g59_x1 j124_x3 j124_x4 j124_x5 g59_v_ends g59_v_ways → lv_has ls 7 [(0, .ref a_t), (1, .int g59_x1), (3, .int j124_x3), (4, .int j124_x4), (5, .int j124_x5)] → va_P E.1 vwCl (w_X5_orders E a_t a_storey a_wind a_pair a_text a_read a_now a_image a_isKept a_row a_sight a_ways a_ends a_tried v_storeys v_jacks v_soft v_pairs v_bytes v_position v_tokenAt v_token v_digits v_number v_faultAt v_readMany v_readStoreys v_readPairs v_rows v_sights g59_v_ends v_storey v_pair g59_v_ways) H → va_D A (w_X5_orders E a_t a_storey a_wind a_pair a_text a_read a_now a_image a_isKept a_row a_sight a_ways a_ends a_tried v_storeys v_jacks v_soft v_pairs v_bytes v_position v_tokenAt v_token v_digits v_number v_faultAt v_readMany v_readStoreys v_readPairs v_rows v_sights g59_v_ends v_storey v_pair g59_v_ways) → va_S A s.heap H locs → W p l e rm_X5_orders s m args below meth c H locs 0 0 Q (F0 m 124 ls []) := by
        intro j124_x3 j124_x4 j124_x5 ls H locs hf hl hP hD hS
        refine lv_iload_n hx hb dX5_orders_124 rfl (lv_at hl 2 rfl) ?_
        refine lv_iconst hx hb dX5_orders_125 kc_i_1 ?_
        refine lv_iload hx hb dX5_orders_126 (lv_at hl 3 rfl) ?_
        refine lv_ishl hx hb dX5_orders_128 ?_
        refine lv_ior hx hb dX5_orders_129 ?_
        refine lv_istore_n (lv' := [(3, .int (j124_x3 ||| (1 <<< (j124_x4 &&& 31)))), (0, .ref a_t), (1, .int g59_x1), (4, .int j124_x4), (5, .int j124_x5)]) hx hb dX5_orders_130 rfl hl (by decide) rfl (fun ls hl => ?_)
        refine lv_iinc (v := j124_x5 + 1) (lv' := [(5, .int (j124_x5 + 1)), (3, .int (j124_x3 ||| (1 <<< (j124_x4 &&& 31)))), (0, .ref a_t), (1, .int g59_x1), (4, .int j124_x4)]) hx hb dX5_orders_131 hl (k := 4) rfl (by rw [kc_i_1]) (by decide) rfl (fun ls hl => ?_)
        refine lv_goto (tgt := 59) hx hb dX5_orders_134 (by decide) ?_
        exact ih_59 (j124_x3 ||| (1 <<< (j124_x4 &&& 31))) j124_x4 (j124_x5 + 1) ls H locs hf (lv_sub hl [2, 3, 1, 4, 0] rfl) hP hD hS
      have L_76 : ∀ (g76_x3 : Int32) (g76_x5 : Int32) (n : Nat) (j76_x4 : Int32) (j76_x6 : Int32) (ls : Array Slot) (H : Heap) (locs : List Loc), mx_l2 (f_X5_orders_76 v_jacks v_storeys v_storey v_pairs v_pair (mx_l3 (f_X5_orders_59 v_jacks v_storeys v_storey v_pairs v_pair post g59_x1 g59_v_ends g59_v_ways) n_59) post g59_x1 g76_x3 g76_x5 g59_v_ends g59_v_ways) n j76_x4 j76_x6 → lv_has ls 7 [(0, .ref a_t), (1, .int g59_x1), (3, .int g76_x3), (4, .int j76_x4), (5, .int g76_x5), (6, .int j76_x6)] → va_P E.1 vwCl (w_X5_orders E a_t a_storey a_wind a_pair a_text a_read a_now a_image a_isKept a_row a_sight a_ways a_ends a_tried v_storeys v_jacks v_soft v_pairs v_bytes v_position v_tokenAt v_token v_digits v_number v_faultAt v_readMany v_readStoreys v_readPairs v_rows v_sights g59_v_ends v_storey v_pair g59_v_ways) H → va_D A (w_X5_orders E a_t a_storey a_wind a_pair a_text a_read a_now a_image a_isKept a_row a_sight a_ways a_ends a_tried v_storeys v_jacks v_soft v_pairs v_bytes v_position v_tokenAt v_token v_digits v_number v_faultAt v_readMany v_readStoreys v_readPairs v_rows v_sights g59_v_ends v_storey v_pair g59_v_ways) → va_S A s.heap H locs → W p l e rm_X5_orders s m args below meth c H locs 0 0 Q (F0 m 76 ls []) := by
        intro g76_x3 g76_x5 n_76
        induction n_76 with
        | zero =>
          intro j76_x4 j76_x6 ls H locs hf hl hP hD hS
          exact False.elim hf
        | succ n_76 ih_76 =>
          intro j76_x4 j76_x6 ls H locs hf hl hP hD hS
          replace hf : f_X5_orders_76 v_jacks v_storeys v_storey v_pairs v_pair (mx_l3 (f_X5_orders_59 v_jacks v_storeys v_storey v_pairs v_pair post g59_x1 g59_v_ends g59_v_ways) n_59) post g59_x1 g76_x3 g76_x5 g59_v_ends g59_v_ways (mx_l2 (f_X5_orders_76 v_jacks v_storeys v_storey v_pairs v_pair (mx_l3 (f_X5_orders_59 v_jacks v_storeys v_storey v_pairs v_pair post g59_x1 g59_v_ends g59_v_ways) n_59) post g59_x1 g76_x3 g76_x5 g59_v_ends g59_v_ways) n_76) j76_x4 j76_x6 := hf
          refine lv_iload hx hb dX5_orders_76 (lv_at hl 5 rfl) ?_
          refine lv_if_lt (tgt := 124) hx hb dX5_orders_78 (by decide) (fun c78 => ?_) (fun c78 => ?_)
          · have hf := hf.1 c78
            exact J_124 g76_x3 j76_x4 g76_x5 ls H locs hf (lv_sub hl [0, 1, 2, 3, 4] rfl) hP hD hS
          · have hf := hf.2 c78
            refine lv_aload_n hx hb dX5_orders_81 rfl (lv_at hl 0 rfl) ?_
            refine lv_iload hx hb dX5_orders_82 (lv_at hl 5 rfl) ?_
            refine lv_iload_n hx hb dX5_orders_84 rfl (lv_at hl 2 rfl) ?_
            refine lv_aload_n hx hb dX5_orders_85 rfl (lv_at hl 0 rfl) ?_
            refine gf_X5_13 hB hP 0 rfl rfl dX5_orders_86 ?_
            refine mx_gi (mx_runV (As := [.int j76_x6, .int g76_x3, .int v_jacks]) (rest := []) hB (c_X5_whyBy l E a_t a_storey a_wind a_pair a_text a_read a_now a_image a_isKept a_row a_sight a_ways a_ends a_tried v_storeys v_jacks v_soft v_pairs v_bytes v_position v_tokenAt v_token v_digits v_number v_faultAt v_readMany v_readStoreys v_readPairs v_rows v_sights v_storey v_pair j76_x6 g76_x3 v_jacks _ hf) sB_X5_whyBy sV_X5_whyBy wml_X5_196 rfl (mx_ppV hB hP [0, 2, 3] rfl 5 rfl rfl rfl) hl.1 rfl (Nat.le_of_ble_eq_true rfl) dX5_orders_89 ⟨Nat.zero_le _, Nat.zero_le _⟩) (fun r1 hf => ?_)
            refine lv_if_ne (tgt := 114) hx hb dX5_orders_92 (by decide) (fun c92 => ?_) (fun c92 => ?_)
            · have hf := hf.1 c92
              refine lv_iload hx hb dX5_orders_114 (lv_at hl 3 rfl) ?_
              refine lv_istore (lv' := [(4, .int j76_x4), (0, .ref a_t), (1, .int g59_x1), (3, .int g76_x3), (5, .int g76_x5), (6, .int j76_x6)]) hx hb dX5_orders_116 hl (by decide) rfl (fun ls hl => ?_)
              refine lv_iinc (v := j76_x6 + (-1)) (lv' := [(6, .int (j76_x6 + (-1))), (4, .int j76_x4), (0, .ref a_t), (1, .int g59_x1), (3, .int g76_x3), (5, .int g76_x5)]) hx hb dX5_orders_118 hl (k := 5) rfl (by rw [kc_i_m1]) (by decide) rfl (fun ls hl => ?_)
              refine lv_goto (tgt := 76) hx hb dX5_orders_121 (by decide) ?_
              exact ih_76 j76_x4 (j76_x6 + (-1)) ls H locs hf (lv_sub hl [2, 3, 4, 1, 5, 0] rfl) hP hD hS
            · have hf := hf.2 c92
              refine lv_aload_n hx hb dX5_orders_95 rfl (lv_at hl 0 rfl) ?_
              refine gf_X5_51 hB hP 0 rfl rfl dX5_orders_96 ?_
              refine lv_iload_n hx hb dX5_orders_99 rfl (lv_at hl 2 rfl) ?_
              refine lv_iconst hx hb dX5_orders_100 kc_i_1 ?_
              refine lv_iload hx hb dX5_orders_101 (lv_at hl 5 rfl) ?_
              refine lv_ishl hx hb dX5_orders_103 ?_
              refine lv_ior hx hb dX5_orders_104 ?_
              obtain ⟨h_in, hf⟩ := hf
              refine va_zald hx hb hB.K hP 1 2 rfl rfl h_in dX5_orders_105 ?_
              refine lv_if_eq (tgt := 114) hx hb dX5_orders_106 (by decide) (fun c106 => ?_) (fun c106 => ?_)
              · have hf := hf.1 c106
                refine lv_iload hx hb dX5_orders_114 (lv_at hl 3 rfl) ?_
                refine lv_istore (lv' := [(4, .int j76_x4), (0, .ref a_t), (1, .int g59_x1), (3, .int g76_x3), (5, .int g76_x5), (6, .int j76_x6)]) hx hb dX5_orders_116 hl (by decide) rfl (fun ls hl => ?_)
                refine lv_iinc (v := j76_x6 + (-1)) (lv' := [(6, .int (j76_x6 + (-1))), (4, .int j76_x4), (0, .ref a_t), (1, .int g59_x1), (3, .int g76_x3), (5, .int g76_x5)]) hx hb dX5_orders_118 hl (k := 5) rfl (by rw [kc_i_m1]) (by decide) rfl (fun ls hl => ?_)
                refine lv_goto (tgt := 76) hx hb dX5_orders_121 (by decide) ?_
                exact ih_76 j76_x4 (j76_x6 + (-1)) ls H locs hf (lv_sub hl [2, 3, 4, 1, 5, 0] rfl) hP hD hS
              · have hf := hf.2 c106
                refine lv_iload hx hb dX5_orders_109 (lv_at hl 5 rfl) ?_
                refine lv_goto (tgt := 116) hx hb dX5_orders_111 (by decide) ?_
                refine lv_istore (lv' := [(4, .int j76_x6), (0, .ref a_t), (1, .int g59_x1), (3, .int g76_x3), (5, .int g76_x5), (6, .int j76_x6)]) hx hb dX5_orders_116 hl (by decide) rfl (fun ls hl => ?_)
                refine lv_iinc (v := j76_x6 + (-1)) (lv' := [(6, .int (j76_x6 + (-1))), (4, .int j76_x6), (0, .ref a_t), (1, .int g59_x1), (3, .int g76_x3), (5, .int g76_x5)]) hx hb dX5_orders_118 hl (k := 5) rfl (by rw [kc_i_m1]) (by decide) rfl (fun ls hl => ?_)
                refine lv_goto (tgt := 76) hx hb dX5_orders_121 (by decide) ?_
                exact ih_76 j76_x6 (j76_x6 + (-1)) ls H locs hf (lv_sub hl [2, 3, 4, 1, 5, 0] rfl) hP hD hS
      intro j59_x3 j59_x4 j59_x5 ls H locs hf hl hP hD hS
      replace hf : f_X5_orders_59 v_jacks v_storeys v_storey v_pairs v_pair post g59_x1 g59_v_ends g59_v_ways (mx_l3 (f_X5_orders_59 v_jacks v_storeys v_storey v_pairs v_pair post g59_x1 g59_v_ends g59_v_ways) n_59) j59_x3 j59_x4 j59_x5 := hf
      refine lv_iload hx hb dX5_orders_59 (lv_at hl 4 rfl) ?_
      refine lv_iload_n hx hb dX5_orders_61 rfl (lv_at hl 1 rfl) ?_
      refine lv_icmp_gt (tgt := 137) hx hb dX5_orders_62 (by decide) (fun c62 => ?_) (fun c62 => ?_)
      · have hf := hf.1 c62
        refine lv_iload hx hb dX5_orders_137 (lv_at hl 3 rfl) ?_
        exact hRet j59_x4 (g59_v_ends, g59_v_ways) 139 ls H locs dX5_orders_139 hf hP hS
      · have hf := hf.2 c62
        refine lv_iconst hx hb dX5_orders_65 kc_i_m1 ?_
        refine lv_istore (lv' := [(4, .int (-1)), (0, .ref a_t), (1, .int g59_x1), (3, .int j59_x3), (5, .int j59_x5)]) hx hb dX5_orders_66 hl (by decide) rfl (fun ls hl => ?_)
        refine lv_aload_n hx hb dX5_orders_68 rfl (lv_at hl 1 rfl) ?_
        refine gf_X5_57 hB hP 0 rfl rfl dX5_orders_69 ?_
        refine lv_iconst hx hb dX5_orders_72 kc_i_1 ?_
        refine lv_isub hx hb dX5_orders_73 ?_
        refine lv_istore (lv' := [(6, .int (v_storeys - 1)), (4, .int (-1)), (0, .ref a_t), (1, .int g59_x1), (3, .int j59_x3), (5, .int j59_x5)]) hx hb dX5_orders_74 hl (by decide) rfl (fun ls hl => ?_)
        obtain ⟨n9, hf⟩ := hf
        exact L_76 j59_x3 j59_x5 n9 (-1) (v_storeys - 1) ls H locs hf (lv_sub hl [2, 3, 4, 1, 5, 0] rfl) hP hD hS
  obtain ⟨H, locs, eH, eL⟩ : ∃ (H : Heap) (locs : List Loc), H = s.heap ∧ locs = [] := ⟨_, _, rfl, rfl⟩
  rw [← eH] at hP
  have hS : va_S A s.heap H locs := by rw [eH, eL]; exact hS
  show W p l e rm_X5_orders s m args below meth c s.heap [] 0 0 Q (F0 m 0 ls [])
  rw [← eH, ← eL]
  refine lv_iload_n hx hb dX5_orders_0 rfl (lv_at hl 1 rfl) ?_
  refine lv_iconst hx hb dX5_orders_1 kc_i_m1 ?_
  refine lv_icmp_ge (tgt := 8) hx hb dX5_orders_2 (by decide) (fun c2 => ?_) (fun c2 => ?_)
  · have hf := hf.1 c2
    refine lv_aload_n hx hb dX5_orders_8 rfl (lv_at hl 0 rfl) ?_
    refine lv_aload_n hx hb dX5_orders_9 rfl (lv_at hl 0 rfl) ?_
    refine gf_X5_13 hB hP 0 rfl rfl dX5_orders_10 ?_
    refine mx_wv (mx_runV (As := [.int v_jacks]) (rest := []) hB (c_X5_layWays l E a_t a_storey a_wind a_pair a_text a_read a_now a_image a_isKept a_row a_sight a_ways a_ends a_tried v_storeys v_jacks v_soft v_pairs v_bytes v_position v_tokenAt v_token v_digits v_number v_faultAt v_readMany v_readStoreys v_readPairs v_rows v_sights v_ends v_storey v_pair v_ways H.size v_jacks _ hf) sB_X5_layWays sV_X5_layWays wml_X5_206 rfl (mx_pwV hB hP hD [0, 1, 2, 3, 4] (by decide) rfl rfl 5 rfl rfl rfl) hl.1 rfl (Nat.le_of_ble_eq_true rfl) dX5_orders_13 ⟨Nat.zero_le _, Nat.zero_le _⟩) hP hD hS hA [0, 1, 2, 3, 4] [] 5 rfl (fun u => w_X5_orders E a_t a_storey a_wind a_pair a_text a_read a_now a_image a_isKept a_row a_sight a_ways a_ends a_tried v_storeys v_jacks v_soft v_pairs v_bytes v_position v_tokenAt v_token v_digits v_number v_faultAt v_readMany v_readStoreys v_readPairs v_rows v_sights u.1 v_storey v_pair u.2) (fun _ => rfl) (by decide) (fun _ => rfl) (fun _ => rfl) rfl (fun _ => rfl) (fun u H locs hf hP hD hS => ?_)
    obtain ⟨u2, u3⟩ := u
    have hP : va_P E.1 vwCl (w_X5_orders E a_t a_storey a_wind a_pair a_text a_read a_now a_image a_isKept a_row a_sight a_ways a_ends a_tried v_storeys v_jacks v_soft v_pairs v_bytes v_position v_tokenAt v_token v_digits v_number v_faultAt v_readMany v_readStoreys v_readPairs v_rows v_sights u2 v_storey v_pair u3) H := hP
    have hD : va_D A (w_X5_orders E a_t a_storey a_wind a_pair a_text a_read a_now a_image a_isKept a_row a_sight a_ways a_ends a_tried v_storeys v_jacks v_soft v_pairs v_bytes v_position v_tokenAt v_token v_digits v_number v_faultAt v_readMany v_readStoreys v_readPairs v_rows v_sights u2 v_storey v_pair u3) := hD
    refine lv_aload_n hx hb dX5_orders_16 rfl (lv_at hl 0 rfl) ?_
    refine gf_X5_48 hB hP 0 rfl rfl dX5_orders_17 ?_
    refine lv_iconst hx hb dX5_orders_20 kc_i_1 ?_
    refine lv_aload_n hx hb dX5_orders_21 rfl (lv_at hl 0 rfl) ?_
    refine gf_X5_57 hB hP 0 rfl rfl dX5_orders_22 ?_
    refine lv_ishl hx hb dX5_orders_25 ?_
    refine lv_iconst hx hb dX5_orders_26 kc_i_1 ?_
    refine lv_isub hx hb dX5_orders_27 ?_
    obtain ⟨h_in, hf⟩ := hf
    refine va_iald hx hb hB.K hP 4 0 rfl rfl h_in dX5_orders_28 ?_
    refine lv_istore_n (lv' := [(2, .int (u3 ((1 <<< (v_storeys &&& 31)) - 1).toNatClampNeg)), (0, .ref a_t), (1, .int x1)]) hx hb dX5_orders_29 rfl hl (by decide) rfl (fun ls hl => ?_)
    refine lv_iload_n hx hb dX5_orders_30 rfl (lv_at hl 2 rfl) ?_
    refine lv_iconst hx hb dX5_orders_31 kc_i_m1 ?_
    refine lv_icmp_ne (tgt := 37) hx hb dX5_orders_32 (by decide) (fun c32 => ?_) (fun c32 => ?_)
    · have hf := hf.1 c32
      refine lv_iload_n hx hb dX5_orders_37 rfl (lv_at hl 0 rfl) ?_
      refine lv_if_eq (tgt := 49) hx hb dX5_orders_38 (by decide) (fun c38 => ?_) (fun c38 => ?_)
      · have hf := hf.1 c38
        refine lv_iconst hx hb dX5_orders_49 kc_i_m1 ?_
        exact hRet (-1) (u2, u3) 50 ls H locs dX5_orders_50 hf hP hS
      · have hf := hf.2 c38
        refine lv_iload_n hx hb dX5_orders_41 rfl (lv_at hl 2 rfl) ?_
        refine lv_aload_n hx hb dX5_orders_42 rfl (lv_at hl 1 rfl) ?_
        refine gf_X5_57 hB hP 0 rfl rfl dX5_orders_43 ?_
        refine lv_icmp_lt (tgt := 51) hx hb dX5_orders_46 (by decide) (fun c46 => ?_) (fun c46 => ?_)
        · have hf := hf.1 c46
          refine lv_iconst hx hb dX5_orders_51 kc_i_0 ?_
          refine lv_istore_n (lv' := [(3, .int 0), (2, .int (u3 ((1 <<< (v_storeys &&& 31)) - 1).toNatClampNeg)), (0, .ref a_t), (1, .int x1)]) hx hb dX5_orders_52 rfl hl (by decide) rfl (fun ls hl => ?_)
          refine lv_iconst hx hb dX5_orders_53 kc_i_m1 ?_
          refine lv_istore (lv' := [(4, .int (-1)), (3, .int 0), (2, .int (u3 ((1 <<< (v_storeys &&& 31)) - 1).toNatClampNeg)), (0, .ref a_t), (1, .int x1)]) hx hb dX5_orders_54 hl (by decide) rfl (fun ls hl => ?_)
          refine lv_iconst hx hb dX5_orders_56 kc_i_0 ?_
          refine lv_istore (lv' := [(5, .int 0), (4, .int (-1)), (3, .int 0), (2, .int (u3 ((1 <<< (v_storeys &&& 31)) - 1).toNatClampNeg)), (0, .ref a_t), (1, .int x1)]) hx hb dX5_orders_57 hl (by decide) rfl (fun ls hl => ?_)
          obtain ⟨n9, hf⟩ := hf
          exact L_59 x1 u2 u3 n9 0 (-1) 0 ls H locs hf (lv_sub hl [4, 5, 2, 1, 0] rfl) hP hD hS
        · have hf := hf.2 c46
          refine lv_iconst hx hb dX5_orders_49 kc_i_m1 ?_
          exact hRet (-1) (u2, u3) 50 ls H locs dX5_orders_50 hf hP hS
    · have hf := hf.2 c32
      refine lv_iload_n hx hb dX5_orders_35 rfl (lv_at hl 0 rfl) ?_
      exact hRet (u3 ((1 <<< (v_storeys &&& 31)) - 1).toNatClampNeg) (u2, u3) 36 ls H locs dX5_orders_36 hf hP hS
  · have hf := hf.2 c2
    refine lv_bipush hx hb dX5_orders_5 kc_b_m3 ?_
    exact hRet (-3) (v_ends, v_ways) 7 ls H locs dX5_orders_7 hf hP hS
theorem c_X5_orders (l : Launch) (E : mx_E) (a_t : Nat) (a_storey : Nat) (a_wind : Nat) (a_pair : Nat) (a_text : Nat) (a_read : Nat) (a_now : Nat) (a_image : Nat) (a_isKept : Nat) (a_row : Nat) (a_sight : Nat) (a_ways : Nat) (a_ends : Nat) (a_tried : Nat) (v_storeys : Int32) (v_jacks : Int32) (v_soft : Int32) (v_pairs : Int32) (v_bytes : Int32) (v_position : Int32) (v_tokenAt : Int32) (v_token : Int64) (v_digits : Int32) (v_number : Int32) (v_faultAt : Int32) (v_readMany : Int32) (v_readStoreys : Int32) (v_readPairs : Int32) (v_rows : Int32) (v_sights : Int32) (v_ends : (Nat → Int32)) (v_storey : (Nat → Int32)) (v_pair : (Nat → Int32)) (v_ways : (Nat → Int32)) (sz : Nat) (x1 : Int32) (post : Int32 → (Nat → Int32) → (Nat → Int32) → Prop) (hf : f_X5_orders v_jacks v_storeys v_storey v_pairs v_pair v_ends v_ways x1 post) : Met l yX5_orders (Cond.code yX5_orders cX5_orders 7 (some .int) :: mx_WS) rm_X5_orders (va_Pc [.ref a_t, .int x1] (mx_Pw E (w_X5_orders E a_t a_storey a_wind a_pair a_text a_read a_now a_image a_isKept a_row a_sight a_ways a_ends a_tried v_storeys v_jacks v_soft v_pairs v_bytes v_position v_tokenAt v_token v_digits v_number v_faultAt v_readMany v_readStoreys v_readPairs v_rows v_sights v_ends v_storey v_pair v_ways) sz)) (va_Qi (fun (v : Int32) (u : (Nat → Int32) × (Nat → Int32)) => post v u.1 u.2) (fun u t => va_P E.1 vwCl (w_X5_orders E a_t a_storey a_wind a_pair a_text a_read a_now a_image a_isKept a_row a_sight a_ways a_ends a_tried v_storeys v_jacks v_soft v_pairs v_bytes v_position v_tokenAt v_token v_digits v_number v_faultAt v_readMany v_readStoreys v_readPairs v_rows v_sights u.1 v_storey v_pair u.2) t.heap) (va_A (w_X5_orders E a_t a_storey a_wind a_pair a_text a_read a_now a_image a_isKept a_row a_sight a_ways a_ends a_tried v_storeys v_jacks v_soft v_pairs v_bytes v_position v_tokenAt v_token v_digits v_number v_faultAt v_readMany v_readStoreys v_readPairs v_rows v_sights v_ends v_storey v_pair v_ways) sz)) 0 0 (va_A (w_X5_orders E a_t a_storey a_wind a_pair a_text a_read a_now a_image a_isKept a_row a_sight a_ways a_ends a_tried v_storeys v_jacks v_soft v_pairs v_bytes v_position v_tokenAt v_token v_digits v_number v_faultAt v_readMany v_readStoreys v_readPairs v_rows v_sights v_ends v_storey v_pair v_ways) sz) :=
  mx_metWi (by decide) rfl rfl (fun hB hP hD hA hRet ls hl => b_X5_orders E a_t a_storey a_wind a_pair a_text a_read a_now a_image a_isKept a_row a_sight a_ways a_ends a_tried v_storeys v_jacks v_soft v_pairs v_bytes v_position v_tokenAt v_token v_digits v_number v_faultAt v_readMany v_readStoreys v_readPairs v_rows v_sights v_ends v_storey v_pair v_ways x1 post hB hP hD hA hRet hf ls hl)
def rm_X5_highOf : Room := { frames := 1, cells := 0, slots := 0, locals := 21 }
set_option maxHeartbeats 4000000 in
set_option maxRecDepth 100000 in
theorem b_X5_highOf {p : Program} {l : Launch} {e : Env} {s : State} {m : MethodId} {args : Array Value} {below : List Frame} {meth : Method} {c : Code} {Q : State → Prop} (E : mx_E) (a_t : Nat) (a_storey : Nat) (a_wind : Nat) (a_pair : Nat) (a_text : Nat) (a_read : Nat) (a_now : Nat) (a_image : Nat) (a_isKept : Nat) (a_row : Nat) (a_sight : Nat) (a_ways : Nat) (a_ends : Nat) (a_tried : Nat) (v_storeys : Int32) (v_jacks : Int32) (v_soft : Int32) (v_pairs : Int32) (v_bytes : Int32) (v_position : Int32) (v_tokenAt : Int32) (v_token : Int64) (v_digits : Int32) (v_number : Int32) (v_faultAt : Int32) (v_readMany : Int32) (v_readStoreys : Int32) (v_readPairs : Int32) (v_rows : Int32) (v_sights : Int32) (v_storey : (Nat → Int32)) (x1 : Int32) (post : Int32 → Prop) (hB : mx_B p m c cX5_highOf 4 s args RX5 E) (hP : va_P E.1 vwCl (w_X5_highOf E a_t a_storey a_wind a_pair a_text a_read a_now a_image a_isKept a_row a_sight a_ways a_ends a_tried v_storeys v_jacks v_soft v_pairs v_bytes v_position v_tokenAt v_token v_digits v_number v_faultAt v_readMany v_readStoreys v_readPairs v_rows v_sights v_storey) s.heap) (hRet : ∀ (v : Int32) (pc : Nat) (ls : Array Slot), decode cX5_highOf pc = .ok (.ireturn, 1) → post v → W p l e rm_X5_highOf s m args below meth c s.heap [] 0 0 Q (F0 m pc ls [.int v])) (hf : f_X5_highOf v_storeys v_storey x1 post) (ls : Array Slot) (hl : lv_has ls 4 [(0, .ref a_t), (1, .int x1)]) : W p l e rm_X5_highOf s m args below meth c s.heap [] 0 0 Q (F0 m 0 ls []) := by
  have hx := hB.x
  have hb := hB.b
  have L_4 : ∀ (g4_x1 : Int32) (n : Nat) (j4_x2 : Int32) (j4_x3 : Int32) (ls : Array Slot), mx_l2 (f_X5_highOf_4 v_storeys v_storey post g4_x1) n j4_x2 j4_x3 → lv_has ls 4 [(0, .ref a_t), (1, .int g4_x1), (2, .int j4_x2), (3, .int j4_x3)] → W p l e rm_X5_highOf s m args below meth c s.heap [] 0 0 Q (F0 m 4 ls []) := by
    intro g4_x1 n_4
    induction n_4 with
    | zero =>
      intro j4_x2 j4_x3 ls hf hl
      exact False.elim hf
    | succ n_4 ih_4 =>
      have J_35 : ∀ (j35_x3 : Int32) (j35_k0 : Int32) (j35_k1 : Int32) (ls : Array Slot), f_X5_highOf_35 v_storeys v_storey (mx_l2 (f_X5_highOf_4 v_storeys v_storey post g4_x1) n_4) post g4_x1 j35_x3 j35_k0 j35_k1 → lv_has ls 4 [(0, .ref a_t), (1, .int g4_x1), (3, .int j35_x3)] → W p l e rm_X5_highOf s m args below meth c s.heap [] 0 0 Q (F0 m 35 ls [.int j35_k1, .int j35_k0]) := by
        intro j35_x3 j35_k0 j35_k1 ls hf hl
        refine lv_iadd hx hb dX5_highOf_35 ?_
        refine lv_istore_n (lv' := [(2, .int (j35_k0 + j35_k1)), (0, .ref a_t), (1, .int g4_x1), (3, .int j35_x3)]) hx hb dX5_highOf_36 rfl hl (by decide) rfl (fun ls hl => ?_)
        refine lv_iinc (v := j35_x3 + 1) (lv' := [(3, .int (j35_x3 + 1)), (2, .int (j35_k0 + j35_k1)), (0, .ref a_t), (1, .int g4_x1)]) hx hb dX5_highOf_37 hl (k := 3) rfl (by rw [kc_i_1]) (by decide) rfl (fun ls hl => ?_)
        refine lv_goto (tgt := 4) hx hb dX5_highOf_40 (by decide) ?_
        exact ih_4 (j35_k0 + j35_k1) (j35_x3 + 1) ls hf (lv_sub hl [2, 3, 1, 0] rfl)
      intro j4_x2 j4_x3 ls hf hl
      replace hf : f_X5_highOf_4 v_storeys v_storey post g4_x1 (mx_l2 (f_X5_highOf_4 v_storeys v_storey post g4_x1) n_4) j4_x2 j4_x3 := hf
      refine lv_iload_n hx hb dX5_highOf_4 rfl (lv_at hl 3 rfl) ?_
      refine lv_aload_n hx hb dX5_highOf_5 rfl (lv_at hl 0 rfl) ?_
      refine gf_X5_57 hB hP 0 rfl rfl dX5_highOf_6 ?_
      refine lv_icmp_ge (tgt := 43) hx hb dX5_highOf_9 (by decide) (fun c9 => ?_) (fun c9 => ?_)
      · have hf := hf.1 c9
        refine lv_iload_n hx hb dX5_highOf_43 rfl (lv_at hl 2 rfl) ?_
        exact hRet j4_x2 44 ls dX5_highOf_44 hf
      · have hf := hf.2 c9
        refine lv_iload_n hx hb dX5_highOf_12 rfl (lv_at hl 2 rfl) ?_
        refine lv_iload_n hx hb dX5_highOf_13 rfl (lv_at hl 1 rfl) ?_
        refine lv_iload_n hx hb dX5_highOf_14 rfl (lv_at hl 3 rfl) ?_
        refine mx_gi (mx_runS (As := [.int g4_x1, .int j4_x3]) (rest := [.int j4_x2]) hB (c_X5_has l E g4_x1 j4_x3 _ hf) sB_X5_has wst_X5_has wml_X5_179 rfl (mx_pp hB hP [] rfl) hl.1 rfl (Nat.le_of_ble_eq_true rfl) dX5_highOf_15 ⟨Nat.zero_le _, Nat.zero_le _⟩) (fun r1 hf => ?_)
        refine lv_if_eq (tgt := 34) hx hb dX5_highOf_18 (by decide) (fun c18 => ?_) (fun c18 => ?_)
        · have hf := hf.1 c18
          refine lv_iconst hx hb dX5_highOf_34 kc_i_0 ?_
          exact J_35 j4_x3 j4_x2 0 ls hf (lv_sub hl [0, 1, 3] rfl)
        · have hf := hf.2 c18
          refine lv_aload_n hx hb dX5_highOf_21 rfl (lv_at hl 0 rfl) ?_
          refine gf_X5_7 hB hP 0 rfl rfl dX5_highOf_22 ?_
          refine lv_iconst hx hb dX5_highOf_25 kc_i_5 ?_
          refine lv_iload_n hx hb dX5_highOf_26 rfl (lv_at hl 3 rfl) ?_
          refine lv_imul hx hb dX5_highOf_27 ?_
          refine lv_iconst hx hb dX5_highOf_28 kc_i_3 ?_
          refine lv_iadd hx hb dX5_highOf_29 ?_
          obtain ⟨h_in, hf⟩ := hf
          refine va_iald hx hb hB.K hP 1 0 rfl rfl h_in dX5_highOf_30 ?_
          refine lv_goto (tgt := 35) hx hb dX5_highOf_31 (by decide) ?_
          exact J_35 j4_x3 j4_x2 (v_storey ((5 * j4_x3) + 3).toNatClampNeg) ls hf (lv_sub hl [0, 1, 3] rfl)
  refine lv_iconst hx hb dX5_highOf_0 kc_i_0 ?_
  refine lv_istore_n (lv' := [(2, .int 0), (0, .ref a_t), (1, .int x1)]) hx hb dX5_highOf_1 rfl hl (by decide) rfl (fun ls hl => ?_)
  refine lv_iconst hx hb dX5_highOf_2 kc_i_0 ?_
  refine lv_istore_n (lv' := [(3, .int 0), (2, .int 0), (0, .ref a_t), (1, .int x1)]) hx hb dX5_highOf_3 rfl hl (by decide) rfl (fun ls hl => ?_)
  obtain ⟨n9, hf⟩ := hf
  exact L_4 x1 n9 0 0 ls hf (lv_sub hl [2, 3, 1, 0] rfl)
theorem c_X5_highOf (l : Launch) (E : mx_E) (a_t : Nat) (a_storey : Nat) (a_wind : Nat) (a_pair : Nat) (a_text : Nat) (a_read : Nat) (a_now : Nat) (a_image : Nat) (a_isKept : Nat) (a_row : Nat) (a_sight : Nat) (a_ways : Nat) (a_ends : Nat) (a_tried : Nat) (v_storeys : Int32) (v_jacks : Int32) (v_soft : Int32) (v_pairs : Int32) (v_bytes : Int32) (v_position : Int32) (v_tokenAt : Int32) (v_token : Int64) (v_digits : Int32) (v_number : Int32) (v_faultAt : Int32) (v_readMany : Int32) (v_readStoreys : Int32) (v_readPairs : Int32) (v_rows : Int32) (v_sights : Int32) (v_storey : (Nat → Int32)) (x1 : Int32) (post : Int32 → Prop) (hf : f_X5_highOf v_storeys v_storey x1 post) : Met l yX5_highOf (Cond.code yX5_highOf cX5_highOf 4 (some .int) :: mx_WS) rm_X5_highOf (va_Pc [.ref a_t, .int x1] (mx_Pp E (w_X5_highOf E a_t a_storey a_wind a_pair a_text a_read a_now a_image a_isKept a_row a_sight a_ways a_ends a_tried v_storeys v_jacks v_soft v_pairs v_bytes v_position v_tokenAt v_token v_digits v_number v_faultAt v_readMany v_readStoreys v_readPairs v_rows v_sights v_storey))) (vp_Si post) 0 0 (fun _ => False) :=
  mx_metPi (by decide) rfl rfl (fun hB hP hRet ls hl => b_X5_highOf E a_t a_storey a_wind a_pair a_text a_read a_now a_image a_isKept a_row a_sight a_ways a_ends a_tried v_storeys v_jacks v_soft v_pairs v_bytes v_position v_tokenAt v_token v_digits v_number v_faultAt v_readMany v_readStoreys v_readPairs v_rows v_sights v_storey x1 post hB hP hRet hf ls hl)
def rm_X5_tallest : Room := { frames := 4, cells := 0, slots := 0, locals := 95 }
set_option maxHeartbeats 4000000 in
set_option maxRecDepth 100000 in
theorem b_X5_tallest {p : Program} {l : Launch} {e : Env} {s : State} {m : MethodId} {args : Array Value} {below : List Frame} {meth : Method} {c : Code} {Q : State → Prop} {A : Nat → Prop} (E : mx_E) (a_t : Nat) (a_storey : Nat) (a_wind : Nat) (a_pair : Nat) (a_text : Nat) (a_read : Nat) (a_now : Nat) (a_image : Nat) (a_isKept : Nat) (a_row : Nat) (a_sight : Nat) (a_ways : Nat) (a_ends : Nat) (a_tried : Nat) (v_storeys : Int32) (v_jacks : Int32) (v_soft : Int32) (v_pairs : Int32) (v_bytes : Int32) (v_position : Int32) (v_tokenAt : Int32) (v_token : Int64) (v_digits : Int32) (v_number : Int32) (v_faultAt : Int32) (v_readMany : Int32) (v_readStoreys : Int32) (v_readPairs : Int32) (v_rows : Int32) (v_sights : Int32) (v_ends : (Nat → Int32)) (v_storey : (Nat → Int32)) (v_pair : (Nat → Int32)) (v_ways : (Nat → Int32)) (x1 : Int32) (post : Int32 → (Nat → Int32) → (Nat → Int32) → Prop) (hB : mx_B p m c cX5_tallest 4 s args RX5 E) (hP : va_P E.1 vwCl (w_X5_tallest E a_t a_storey a_wind a_pair a_text a_read a_now a_image a_isKept a_row a_sight a_ways a_ends a_tried v_storeys v_jacks v_soft v_pairs v_bytes v_position v_tokenAt v_token v_digits v_number v_faultAt v_readMany v_readStoreys v_readPairs v_rows v_sights v_ends v_storey v_pair v_ways) s.heap) (hD : va_D A (w_X5_tallest E a_t a_storey a_wind a_pair a_text a_read a_now a_image a_isKept a_row a_sight a_ways a_ends a_tried v_storeys v_jacks v_soft v_pairs v_bytes v_position v_tokenAt v_token v_digits v_number v_faultAt v_readMany v_readStoreys v_readPairs v_rows v_sights v_ends v_storey v_pair v_ways)) (hA : ∀ q : Nat, s.heap.size ≤ q → A q) (hRet : ∀ (v : Int32) (u : (Nat → Int32) × (Nat → Int32)) (pc : Nat) (ls : Array Slot) (H : Heap) (locs : List Loc), decode cX5_tallest pc = .ok (.ireturn, 1) → post v u.1 u.2 → va_P E.1 vwCl (w_X5_tallest E a_t a_storey a_wind a_pair a_text a_read a_now a_image a_isKept a_row a_sight a_ways a_ends a_tried v_storeys v_jacks v_soft v_pairs v_bytes v_position v_tokenAt v_token v_digits v_number v_faultAt v_readMany v_readStoreys v_readPairs v_rows v_sights u.1 v_storey v_pair u.2) H → va_S A s.heap H locs → W p l e rm_X5_tallest s m args below meth c H locs 0 0 Q (F0 m pc ls [.int v])) (hf : f_X5_tallest v_jacks v_storeys v_storey v_pairs v_pair v_ends v_ways x1 post) (ls : Array Slot) (hl : lv_has ls 4 [(0, .ref a_t), (1, .int x1)]) : W p l e rm_X5_tallest s m args below meth c s.heap [] 0 0 Q (F0 m 0 ls []) := by
  have hx := hB.x
  have hb := hB.b
  have hS : va_S A s.heap s.heap [] := va_S.rf
  have J_68 : ∀ (j68_x1 : Int32) (j68_x2 : Int32) (j68_v_ends : (Nat → Int32)) (j68_v_ways : (Nat → Int32)) (ls : Array Slot) (H : Heap) (locs : List Loc), f_X5_tallest_68 v_jacks v_storeys v_storey v_pairs v_pair post j68_x1 j68_x2 j68_v_ends j68_v_ways → lv_has ls 4 [(0, .ref a_t), (1, .int j68_x1), (2, .int j68_x2)] → va_P E.1 vwCl (w_X5_tallest E a_t a_storey a_wind a_pair a_text a_read a_now a_image a_isKept a_row a_sight a_ways a_ends a_tried v_storeys v_jacks v_soft v_pairs v_bytes v_position v_tokenAt v_token v_digits v_number v_faultAt v_readMany v_readStoreys v_readPairs v_rows v_sights j68_v_ends v_storey v_pair j68_v_ways) H → va_D A (w_X5_tallest E a_t a_storey a_wind a_pair a_text a_read a_now a_image a_isKept a_row a_sight a_ways a_ends a_tried v_storeys v_jacks v_soft v_pairs v_bytes v_position v_tokenAt v_token v_digits v_number v_faultAt v_readMany v_readStoreys v_readPairs v_rows v_sights j68_v_ends v_storey v_pair j68_v_ways) → va_S A s.heap H locs → W p l e rm_X5_tallest s m args below meth c H locs 0 0 Q (F0 m 68 ls []) := by
    intro j68_x1 j68_x2 j68_v_ends j68_v_ways ls H locs hf hl hP hD hS
    refine lv_iload_n hx hb dX5_tallest_68 rfl (lv_at hl 1 rfl) ?_
    refine lv_if_ne (tgt := 80) hx hb dX5_tallest_69 (by decide) (fun c69 => ?_) (fun c69 => ?_)
    · have hf := hf.1 c69
      refine lv_iload_n hx hb dX5_tallest_80 rfl (lv_at hl 2 rfl) ?_
      exact hRet j68_x2 (j68_v_ends, j68_v_ways) 81 ls H locs dX5_tallest_81 hf hP hS
    · have hf := hf.2 c69
      refine lv_aload_n hx hb dX5_tallest_72 rfl (lv_at hl 0 rfl) ?_
      refine lv_iload_n hx hb dX5_tallest_73 rfl (lv_at hl 2 rfl) ?_
      refine mx_gi (mx_runV (As := [.int j68_x2]) (rest := []) hB (c_X5_highOf l E a_t a_storey a_wind a_pair a_text a_read a_now a_image a_isKept a_row a_sight a_ways a_ends a_tried v_storeys v_jacks v_soft v_pairs v_bytes v_position v_tokenAt v_token v_digits v_number v_faultAt v_readMany v_readStoreys v_readPairs v_rows v_sights v_storey j68_x2 _ hf) sB_X5_highOf sV_X5_highOf wml_X5_209 rfl (mx_ppV hB hP [0, 2] rfl 5 rfl rfl rfl) hl.1 rfl (Nat.le_of_ble_eq_true rfl) dX5_tallest_74 ⟨Nat.zero_le _, Nat.zero_le _⟩) (fun r1 hf => ?_)
      refine lv_goto (tgt := 81) hx hb dX5_tallest_77 (by decide) ?_
      exact hRet r1 (j68_v_ends, j68_v_ways) 81 ls H locs dX5_tallest_81 hf hP hS
  have L_24 : ∀ (g24_x1 : Int32) (g24_v_ends : (Nat → Int32)) (g24_v_ways : (Nat → Int32)) (n : Nat) (j24_x2 : Int32) (j24_x3 : Int32) (ls : Array Slot) (H : Heap) (locs : List Loc), mx_l2 (f_X5_tallest_24 v_jacks v_storeys v_storey v_pairs v_pair post g24_x1 g24_v_ends g24_v_ways) n j24_x2 j24_x3 → lv_has ls 4 [(0, .ref a_t), (1, .int g24_x1), (2, .int j24_x2), (3, .int j24_x3)] → va_P E.1 vwCl (w_X5_tallest E a_t a_storey a_wind a_pair a_text a_read a_now a_image a_isKept a_row a_sight a_ways a_ends a_tried v_storeys v_jacks v_soft v_pairs v_bytes v_position v_tokenAt v_token v_digits v_number v_faultAt v_readMany v_readStoreys v_readPairs v_rows v_sights g24_v_ends v_storey v_pair g24_v_ways) H → va_D A (w_X5_tallest E a_t a_storey a_wind a_pair a_text a_read a_now a_image a_isKept a_row a_sight a_ways a_ends a_tried v_storeys v_jacks v_soft v_pairs v_bytes v_position v_tokenAt v_token v_digits v_number v_faultAt v_readMany v_readStoreys v_readPairs v_rows v_sights g24_v_ends v_storey v_pair g24_v_ways) → va_S A s.heap H locs → W p l e rm_X5_tallest s m args below meth c H locs 0 0 Q (F0 m 24 ls []) := by
    intro g24_x1 g24_v_ends g24_v_ways n_24
    induction n_24 with
    | zero =>
      intro j24_x2 j24_x3 ls H locs hf hl hP hD hS
      exact False.elim hf
    | succ n_24 ih_24 =>
      intro j24_x2 j24_x3 ls H locs hf hl hP hD hS
      replace hf : f_X5_tallest_24 v_jacks v_storeys v_storey v_pairs v_pair post g24_x1 g24_v_ends g24_v_ways (mx_l2 (f_X5_tallest_24 v_jacks v_storeys v_storey v_pairs v_pair post g24_x1 g24_v_ends g24_v_ways) n_24) j24_x2 j24_x3 := hf
      refine lv_iload_n hx hb dX5_tallest_24 rfl (lv_at hl 3 rfl) ?_
      refine lv_iconst hx hb dX5_tallest_25 kc_i_1 ?_
      refine lv_aload_n hx hb dX5_tallest_26 rfl (lv_at hl 0 rfl) ?_
      refine gf_X5_57 hB hP 0 rfl rfl dX5_tallest_27 ?_
      refine lv_ishl hx hb dX5_tallest_30 ?_
      refine lv_icmp_ge (tgt := 68) hx hb dX5_tallest_31 (by decide) (fun c31 => ?_) (fun c31 => ?_)
      · have hf := hf.1 c31
        exact J_68 g24_x1 j24_x2 g24_v_ends g24_v_ways ls H locs hf (lv_sub hl [0, 1, 2] rfl) hP hD hS
      · have hf := hf.2 c31
        refine lv_aload_n hx hb dX5_tallest_34 rfl (lv_at hl 0 rfl) ?_
        refine gf_X5_48 hB hP 0 rfl rfl dX5_tallest_35 ?_
        refine lv_iload_n hx hb dX5_tallest_38 rfl (lv_at hl 3 rfl) ?_
        obtain ⟨h_in, hf⟩ := hf
        refine va_iald hx hb hB.K hP 4 0 rfl rfl h_in dX5_tallest_39 ?_
        refine lv_if_le (tgt := 60) hx hb dX5_tallest_40 (by decide) (fun c40 => ?_) (fun c40 => ?_)
        · have hf := hf.1 c40
          refine lv_iload_n hx hb dX5_tallest_60 rfl (lv_at hl 2 rfl) ?_
          refine lv_istore_n (lv' := [(2, .int j24_x2), (0, .ref a_t), (1, .int g24_x1), (3, .int j24_x3)]) hx hb dX5_tallest_61 rfl hl (by decide) rfl (fun ls hl => ?_)
          refine lv_iinc (v := j24_x3 + 1) (lv' := [(3, .int (j24_x3 + 1)), (2, .int j24_x2), (0, .ref a_t), (1, .int g24_x1)]) hx hb dX5_tallest_62 hl (k := 3) rfl (by rw [kc_i_1]) (by decide) rfl (fun ls hl => ?_)
          refine lv_goto (tgt := 24) hx hb dX5_tallest_65 (by decide) ?_
          exact ih_24 j24_x2 (j24_x3 + 1) ls H locs hf (lv_sub hl [2, 3, 1, 0] rfl) hP hD hS
        · have hf := hf.2 c40
          refine lv_aload_n hx hb dX5_tallest_43 rfl (lv_at hl 0 rfl) ?_
          refine lv_iload_n hx hb dX5_tallest_44 rfl (lv_at hl 3 rfl) ?_
          refine mx_gi (mx_runV (As := [.int j24_x3]) (rest := []) hB (c_X5_highOf l E a_t a_storey a_wind a_pair a_text a_read a_now a_image a_isKept a_row a_sight a_ways a_ends a_tried v_storeys v_jacks v_soft v_pairs v_bytes v_position v_tokenAt v_token v_digits v_number v_faultAt v_readMany v_readStoreys v_readPairs v_rows v_sights v_storey j24_x3 _ hf) sB_X5_highOf sV_X5_highOf wml_X5_209 rfl (mx_ppV hB hP [0, 2] rfl 5 rfl rfl rfl) hl.1 rfl (Nat.le_of_ble_eq_true rfl) dX5_tallest_45 ⟨Nat.zero_le _, Nat.zero_le _⟩) (fun r1 hf => ?_)
          refine lv_aload_n hx hb dX5_tallest_48 rfl (lv_at hl 0 rfl) ?_
          refine lv_iload_n hx hb dX5_tallest_49 rfl (lv_at hl 2 rfl) ?_
          refine mx_gi (mx_runV (As := [.int j24_x2]) (rest := [.int r1]) hB (c_X5_highOf l E a_t a_storey a_wind a_pair a_text a_read a_now a_image a_isKept a_row a_sight a_ways a_ends a_tried v_storeys v_jacks v_soft v_pairs v_bytes v_position v_tokenAt v_token v_digits v_number v_faultAt v_readMany v_readStoreys v_readPairs v_rows v_sights v_storey j24_x2 _ hf) sB_X5_highOf sV_X5_highOf wml_X5_209 rfl (mx_ppV hB hP [0, 2] rfl 5 rfl rfl rfl) hl.1 rfl (Nat.le_of_ble_eq_true rfl) dX5_tallest_50 ⟨Nat.zero_le _, Nat.zero_le _⟩) (fun r2 hf => ?_)
          refine lv_icmp_le (tgt := 60) hx hb dX5_tallest_53 (by decide) (fun c53 => ?_) (fun c53 => ?_)
          · have hf := hf.1 c53
            refine lv_iload_n hx hb dX5_tallest_60 rfl (lv_at hl 2 rfl) ?_
            refine lv_istore_n (lv' := [(2, .int j24_x2), (0, .ref a_t), (1, .int g24_x1), (3, .int j24_x3)]) hx hb dX5_tallest_61 rfl hl (by decide) rfl (fun ls hl => ?_)
            refine lv_iinc (v := j24_x3 + 1) (lv' := [(3, .int (j24_x3 + 1)), (2, .int j24_x2), (0, .ref a_t), (1, .int g24_x1)]) hx hb dX5_tallest_62 hl (k := 3) rfl (by rw [kc_i_1]) (by decide) rfl (fun ls hl => ?_)
            refine lv_goto (tgt := 24) hx hb dX5_tallest_65 (by decide) ?_
            exact ih_24 j24_x2 (j24_x3 + 1) ls H locs hf (lv_sub hl [2, 3, 1, 0] rfl) hP hD hS
          · have hf := hf.2 c53
            refine lv_iload_n hx hb dX5_tallest_56 rfl (lv_at hl 3 rfl) ?_
            refine lv_goto (tgt := 61) hx hb dX5_tallest_57 (by decide) ?_
            refine lv_istore_n (lv' := [(2, .int j24_x3), (0, .ref a_t), (1, .int g24_x1), (3, .int j24_x3)]) hx hb dX5_tallest_61 rfl hl (by decide) rfl (fun ls hl => ?_)
            refine lv_iinc (v := j24_x3 + 1) (lv' := [(3, .int (j24_x3 + 1)), (2, .int j24_x3), (0, .ref a_t), (1, .int g24_x1)]) hx hb dX5_tallest_62 hl (k := 3) rfl (by rw [kc_i_1]) (by decide) rfl (fun ls hl => ?_)
            refine lv_goto (tgt := 24) hx hb dX5_tallest_65 (by decide) ?_
            exact ih_24 j24_x3 (j24_x3 + 1) ls H locs hf (lv_sub hl [2, 3, 1, 0] rfl) hP hD hS
  obtain ⟨H, locs, eH, eL⟩ : ∃ (H : Heap) (locs : List Loc), H = s.heap ∧ locs = [] := ⟨_, _, rfl, rfl⟩
  rw [← eH] at hP
  have hS : va_S A s.heap H locs := by rw [eH, eL]; exact hS
  show W p l e rm_X5_tallest s m args below meth c s.heap [] 0 0 Q (F0 m 0 ls [])
  rw [← eH, ← eL]
  refine lv_iload_n hx hb dX5_tallest_0 rfl (lv_at hl 1 rfl) ?_
  refine lv_iconst hx hb dX5_tallest_1 kc_i_0 ?_
  refine lv_iconst hx hb dX5_tallest_2 kc_i_1 ?_
  refine mx_gi (mx_runS (As := [.int x1, .int 0, .int 1]) (rest := []) hB (c_X5_in1 l E x1 0 1 _ hf) sB_X5_in1 wst_X5_in1 wml_X5_60 rfl (mx_pp hB hP [] rfl) hl.1 rfl (Nat.le_of_ble_eq_true rfl) dX5_tallest_3 ⟨Nat.zero_le _, Nat.zero_le _⟩) (fun r1 hf => ?_)
  refine lv_if_ne (tgt := 12) hx hb dX5_tallest_6 (by decide) (fun c6 => ?_) (fun c6 => ?_)
  · have hf := hf.1 c6
    refine lv_aload_n hx hb dX5_tallest_12 rfl (lv_at hl 0 rfl) ?_
    refine lv_aload_n hx hb dX5_tallest_13 rfl (lv_at hl 0 rfl) ?_
    refine gf_X5_13 hB hP 0 rfl rfl dX5_tallest_14 ?_
    refine mx_wv (mx_runV (As := [.int v_jacks]) (rest := []) hB (c_X5_layWays l E a_t a_storey a_wind a_pair a_text a_read a_now a_image a_isKept a_row a_sight a_ways a_ends a_tried v_storeys v_jacks v_soft v_pairs v_bytes v_position v_tokenAt v_token v_digits v_number v_faultAt v_readMany v_readStoreys v_readPairs v_rows v_sights v_ends v_storey v_pair v_ways H.size v_jacks _ hf) sB_X5_layWays sV_X5_layWays wml_X5_206 rfl (mx_pwV hB hP hD [0, 1, 2, 3, 4] (by decide) rfl rfl 5 rfl rfl rfl) hl.1 rfl (Nat.le_of_ble_eq_true rfl) dX5_tallest_17 ⟨Nat.zero_le _, Nat.zero_le _⟩) hP hD hS hA [0, 1, 2, 3, 4] [] 5 rfl (fun u => w_X5_tallest E a_t a_storey a_wind a_pair a_text a_read a_now a_image a_isKept a_row a_sight a_ways a_ends a_tried v_storeys v_jacks v_soft v_pairs v_bytes v_position v_tokenAt v_token v_digits v_number v_faultAt v_readMany v_readStoreys v_readPairs v_rows v_sights u.1 v_storey v_pair u.2) (fun _ => rfl) (by decide) (fun _ => rfl) (fun _ => rfl) rfl (fun _ => rfl) (fun u H locs hf hP hD hS => ?_)
    obtain ⟨u3, u4⟩ := u
    have hP : va_P E.1 vwCl (w_X5_tallest E a_t a_storey a_wind a_pair a_text a_read a_now a_image a_isKept a_row a_sight a_ways a_ends a_tried v_storeys v_jacks v_soft v_pairs v_bytes v_position v_tokenAt v_token v_digits v_number v_faultAt v_readMany v_readStoreys v_readPairs v_rows v_sights u3 v_storey v_pair u4) H := hP
    have hD : va_D A (w_X5_tallest E a_t a_storey a_wind a_pair a_text a_read a_now a_image a_isKept a_row a_sight a_ways a_ends a_tried v_storeys v_jacks v_soft v_pairs v_bytes v_position v_tokenAt v_token v_digits v_number v_faultAt v_readMany v_readStoreys v_readPairs v_rows v_sights u3 v_storey v_pair u4) := hD
    refine lv_iconst hx hb dX5_tallest_20 kc_i_0 ?_
    refine lv_istore_n (lv' := [(2, .int 0), (0, .ref a_t), (1, .int x1)]) hx hb dX5_tallest_21 rfl hl (by decide) rfl (fun ls hl => ?_)
    refine lv_iconst hx hb dX5_tallest_22 kc_i_1 ?_
    refine lv_istore_n (lv' := [(3, .int 1), (2, .int 0), (0, .ref a_t), (1, .int x1)]) hx hb dX5_tallest_23 rfl hl (by decide) rfl (fun ls hl => ?_)
    obtain ⟨n9, hf⟩ := hf
    exact L_24 x1 u3 u4 n9 0 1 ls H locs hf (lv_sub hl [2, 3, 1, 0] rfl) hP hD hS
  · have hf := hf.2 c6
    refine lv_bipush hx hb dX5_tallest_9 kc_b_m3 ?_
    exact hRet (-3) (v_ends, v_ways) 11 ls H locs dX5_tallest_11 hf hP hS
theorem c_X5_tallest (l : Launch) (E : mx_E) (a_t : Nat) (a_storey : Nat) (a_wind : Nat) (a_pair : Nat) (a_text : Nat) (a_read : Nat) (a_now : Nat) (a_image : Nat) (a_isKept : Nat) (a_row : Nat) (a_sight : Nat) (a_ways : Nat) (a_ends : Nat) (a_tried : Nat) (v_storeys : Int32) (v_jacks : Int32) (v_soft : Int32) (v_pairs : Int32) (v_bytes : Int32) (v_position : Int32) (v_tokenAt : Int32) (v_token : Int64) (v_digits : Int32) (v_number : Int32) (v_faultAt : Int32) (v_readMany : Int32) (v_readStoreys : Int32) (v_readPairs : Int32) (v_rows : Int32) (v_sights : Int32) (v_ends : (Nat → Int32)) (v_storey : (Nat → Int32)) (v_pair : (Nat → Int32)) (v_ways : (Nat → Int32)) (sz : Nat) (x1 : Int32) (post : Int32 → (Nat → Int32) → (Nat → Int32) → Prop) (hf : f_X5_tallest v_jacks v_storeys v_storey v_pairs v_pair v_ends v_ways x1 post) : Met l yX5_tallest (Cond.code yX5_tallest cX5_tallest 4 (some .int) :: mx_WS) rm_X5_tallest (va_Pc [.ref a_t, .int x1] (mx_Pw E (w_X5_tallest E a_t a_storey a_wind a_pair a_text a_read a_now a_image a_isKept a_row a_sight a_ways a_ends a_tried v_storeys v_jacks v_soft v_pairs v_bytes v_position v_tokenAt v_token v_digits v_number v_faultAt v_readMany v_readStoreys v_readPairs v_rows v_sights v_ends v_storey v_pair v_ways) sz)) (va_Qi (fun (v : Int32) (u : (Nat → Int32) × (Nat → Int32)) => post v u.1 u.2) (fun u t => va_P E.1 vwCl (w_X5_tallest E a_t a_storey a_wind a_pair a_text a_read a_now a_image a_isKept a_row a_sight a_ways a_ends a_tried v_storeys v_jacks v_soft v_pairs v_bytes v_position v_tokenAt v_token v_digits v_number v_faultAt v_readMany v_readStoreys v_readPairs v_rows v_sights u.1 v_storey v_pair u.2) t.heap) (va_A (w_X5_tallest E a_t a_storey a_wind a_pair a_text a_read a_now a_image a_isKept a_row a_sight a_ways a_ends a_tried v_storeys v_jacks v_soft v_pairs v_bytes v_position v_tokenAt v_token v_digits v_number v_faultAt v_readMany v_readStoreys v_readPairs v_rows v_sights v_ends v_storey v_pair v_ways) sz)) 0 0 (va_A (w_X5_tallest E a_t a_storey a_wind a_pair a_text a_read a_now a_image a_isKept a_row a_sight a_ways a_ends a_tried v_storeys v_jacks v_soft v_pairs v_bytes v_position v_tokenAt v_token v_digits v_number v_faultAt v_readMany v_readStoreys v_readPairs v_rows v_sights v_ends v_storey v_pair v_ways) sz) :=
  mx_metWi (by decide) rfl rfl (fun hB hP hD hA hRet ls hl => b_X5_tallest E a_t a_storey a_wind a_pair a_text a_read a_now a_image a_isKept a_row a_sight a_ways a_ends a_tried v_storeys v_jacks v_soft v_pairs v_bytes v_position v_tokenAt v_token v_digits v_number v_faultAt v_readMany v_readStoreys v_readPairs v_rows v_sights v_ends v_storey v_pair v_ways x1 post hB hP hD hA hRet hf ls hl)
def rm_X5_jacks : Room := { frames := 4, cells := 0, slots := 0, locals := 95 }
set_option maxHeartbeats 4000000 in
set_option maxRecDepth 100000 in
theorem b_X5_jacks {p : Program} {l : Launch} {e : Env} {s : State} {m : MethodId} {args : Array Value} {below : List Frame} {meth : Method} {c : Code} {Q : State → Prop} {A : Nat → Prop} (E : mx_E) (a_t : Nat) (a_storey : Nat) (a_wind : Nat) (a_pair : Nat) (a_text : Nat) (a_read : Nat) (a_now : Nat) (a_image : Nat) (a_isKept : Nat) (a_row : Nat) (a_sight : Nat) (a_ways : Nat) (a_ends : Nat) (a_tried : Nat) (v_storeys : Int32) (v_jacks : Int32) (v_soft : Int32) (v_pairs : Int32) (v_bytes : Int32) (v_position : Int32) (v_tokenAt : Int32) (v_token : Int64) (v_digits : Int32) (v_number : Int32) (v_faultAt : Int32) (v_readMany : Int32) (v_readStoreys : Int32) (v_readPairs : Int32) (v_rows : Int32) (v_sights : Int32) (v_ends : (Nat → Int32)) (v_storey : (Nat → Int32)) (v_pair : (Nat → Int32)) (v_ways : (Nat → Int32))  (post : Int32 → (Nat → Int32) → (Nat → Int32) → Prop) (hB : mx_B p m c cX5_jacks 7 s args RX5 E) (hP : va_P E.1 vwCl (w_X5_jacks E a_t a_storey a_wind a_pair a_text a_read a_now a_image a_isKept a_row a_sight a_ways a_ends a_tried v_storeys v_jacks v_soft v_pairs v_bytes v_position v_tokenAt v_token v_digits v_number v_faultAt v_readMany v_readStoreys v_readPairs v_rows v_sights v_ends v_storey v_pair v_ways) s.heap) (hD : va_D A (w_X5_jacks E a_t a_storey a_wind a_pair a_text a_read a_now a_image a_isKept a_row a_sight a_ways a_ends a_tried v_storeys v_jacks v_soft v_pairs v_bytes v_position v_tokenAt v_token v_digits v_number v_faultAt v_readMany v_readStoreys v_readPairs v_rows v_sights v_ends v_storey v_pair v_ways)) (hA : ∀ q : Nat, s.heap.size ≤ q → A q) (hRet : ∀ (v : Int32) (u : (Nat → Int32) × (Nat → Int32)) (pc : Nat) (ls : Array Slot) (H : Heap) (locs : List Loc), decode cX5_jacks pc = .ok (.ireturn, 1) → post v u.1 u.2 → va_P E.1 vwCl (w_X5_jacks E a_t a_storey a_wind a_pair a_text a_read a_now a_image a_isKept a_row a_sight a_ways a_ends a_tried v_storeys v_jacks v_soft v_pairs v_bytes v_position v_tokenAt v_token v_digits v_number v_faultAt v_readMany v_readStoreys v_readPairs v_rows v_sights u.1 v_storey v_pair u.2) H → va_S A s.heap H locs → W p l e rm_X5_jacks s m args below meth c H locs 0 0 Q (F0 m pc ls [.int v])) (hf : f_X5_jacks v_storeys v_storey v_pairs v_pair v_ends v_ways post) (ls : Array Slot) (hl : lv_has ls 7 [(0, .ref a_t)]) : W p l e rm_X5_jacks s m args below meth c s.heap [] 0 0 Q (F0 m 0 ls []) := by
  have hx := hB.x
  have hb := hB.b
  have hS : va_S A s.heap s.heap [] := va_S.rf
  have L_31 : ∀ (g31_x1 : Int32) (g31_v_ends : (Nat → Int32)) (g31_v_ways : (Nat → Int32)) (n : Nat) (j31_x2 : Int32) (j31_x3 : Int32) (ls : Array Slot) (H : Heap) (locs : List Loc), mx_l2 (f_X5_jacks_31 v_storeys v_storey v_pairs v_pair post g31_x1 g31_v_ends g31_v_ways) n j31_x2 j31_x3 → lv_has ls 7 [(0, .ref a_t), (1, .int g31_x1), (2, .int j31_x2), (3, .int j31_x3)] → va_P E.1 vwCl (w_X5_jacks E a_t a_storey a_wind a_pair a_text a_read a_now a_image a_isKept a_row a_sight a_ways a_ends a_tried v_storeys v_jacks v_soft v_pairs v_bytes v_position v_tokenAt v_token v_digits v_number v_faultAt v_readMany v_readStoreys v_readPairs v_rows v_sights g31_v_ends v_storey v_pair g31_v_ways) H → va_D A (w_X5_jacks E a_t a_storey a_wind a_pair a_text a_read a_now a_image a_isKept a_row a_sight a_ways a_ends a_tried v_storeys v_jacks v_soft v_pairs v_bytes v_position v_tokenAt v_token v_digits v_number v_faultAt v_readMany v_readStoreys v_readPairs v_rows v_sights g31_v_ends v_storey v_pair g31_v_ways) → va_S A s.heap H locs → W p l e rm_X5_jacks s m args below meth c H locs 0 0 Q (F0 m 31 ls []) := by
    intro g31_x1 g31_v_ends g31_v_ways n_31
    induction n_31 with
    | zero =>
      intro j31_x2 j31_x3 ls H locs hf hl hP hD hS
      exact False.elim hf
    | succ n_31 ih_31 =>
      have J_102 : ∀ (j102_x3 : Int32) (j102_x5 : Int32) (ls : Array Slot) (H : Heap) (locs : List Loc), f_X5_jacks_102 v_storeys v_storey v_pairs v_pair (mx_l2 (f_X5_jacks_31 v_storeys v_storey v_pairs v_pair post g31_x1 g31_v_ends g31_v_ways) n_31) post g31_x1 j102_x3 j102_x5 g31_v_ends g31_v_ways → lv_has ls 7 [(0, .ref a_t), (1, .int g31_x1), (3, .int j102_x3), (5, .int j102_x5)] → va_P E.1 vwCl (w_X5_jacks E a_t a_storey a_wind a_pair a_text a_read a_now a_image a_isKept a_row a_sight a_ways a_ends a_tried v_storeys v_jacks v_soft v_pairs v_bytes v_position v_tokenAt v_token v_digits v_number v_faultAt v_readMany v_readStoreys v_readPairs v_rows v_sights g31_v_ends v_storey v_pair g31_v_ways) H → va_D A (w_X5_jacks E a_t a_storey a_wind a_pair a_text a_read a_now a_image a_isKept a_row a_sight a_ways a_ends a_tried v_storeys v_jacks v_soft v_pairs v_bytes v_position v_tokenAt v_token v_digits v_number v_faultAt v_readMany v_readStoreys v_readPairs v_rows v_sights g31_v_ends v_storey v_pair g31_v_ways) → va_S A s.heap H locs → W p l e rm_X5_jacks s m args below meth c H locs 0 0 Q (F0 m 102 ls []) := by
        intro j102_x3 j102_x5 ls H locs hf hl hP hD hS
        refine lv_iload hx hb dX5_jacks_102 (lv_at hl 3 rfl) ?_
        refine lv_goto (tgt := 108) hx hb dX5_jacks_104 (by decide) ?_
        refine lv_istore_n (lv' := [(2, .int j102_x5), (0, .ref a_t), (1, .int g31_x1), (3, .int j102_x3), (5, .int j102_x5)]) hx hb dX5_jacks_108 rfl hl (by decide) rfl (fun ls hl => ?_)
        refine lv_iinc (v := j102_x3 + 1) (lv' := [(3, .int (j102_x3 + 1)), (2, .int j102_x5), (0, .ref a_t), (1, .int g31_x1), (5, .int j102_x5)]) hx hb dX5_jacks_109 hl (k := 3) rfl (by rw [kc_i_1]) (by decide) rfl (fun ls hl => ?_)
        refine lv_goto (tgt := 31) hx hb dX5_jacks_112 (by decide) ?_
        exact ih_31 j102_x5 (j102_x3 + 1) ls H locs hf (lv_sub hl [2, 3, 1, 0] rfl) hP hD hS
      have J_84 : ∀ (j84_x2 : Int32) (j84_x3 : Int32) (j84_x5 : Int32) (j84_k0 : Int32) (ls : Array Slot) (H : Heap) (locs : List Loc), f_X5_jacks_84 v_storeys v_storey v_pairs v_pair (mx_l2 (f_X5_jacks_31 v_storeys v_storey v_pairs v_pair post g31_x1 g31_v_ends g31_v_ways) n_31) post g31_x1 j84_x2 j84_x3 j84_x5 j84_k0 g31_v_ends g31_v_ways → lv_has ls 7 [(0, .ref a_t), (1, .int g31_x1), (2, .int j84_x2), (3, .int j84_x3), (5, .int j84_x5)] → va_P E.1 vwCl (w_X5_jacks E a_t a_storey a_wind a_pair a_text a_read a_now a_image a_isKept a_row a_sight a_ways a_ends a_tried v_storeys v_jacks v_soft v_pairs v_bytes v_position v_tokenAt v_token v_digits v_number v_faultAt v_readMany v_readStoreys v_readPairs v_rows v_sights g31_v_ends v_storey v_pair g31_v_ways) H → va_D A (w_X5_jacks E a_t a_storey a_wind a_pair a_text a_read a_now a_image a_isKept a_row a_sight a_ways a_ends a_tried v_storeys v_jacks v_soft v_pairs v_bytes v_position v_tokenAt v_token v_digits v_number v_faultAt v_readMany v_readStoreys v_readPairs v_rows v_sights g31_v_ends v_storey v_pair g31_v_ways) → va_S A s.heap H locs → W p l e rm_X5_jacks s m args below meth c H locs 0 0 Q (F0 m 84 ls [.int j84_k0]) := by
        intro j84_x2 j84_x3 j84_x5 j84_k0 ls H locs hf hl hP hD hS
        refine lv_istore (lv' := [(6, .int j84_k0), (0, .ref a_t), (1, .int g31_x1), (2, .int j84_x2), (3, .int j84_x3), (5, .int j84_x5)]) hx hb dX5_jacks_84 hl (by decide) rfl (fun ls hl => ?_)
        refine lv_iload hx hb dX5_jacks_86 (lv_at hl 0 rfl) ?_
        refine lv_if_eq (tgt := 107) hx hb dX5_jacks_88 (by decide) (fun c88 => ?_) (fun c88 => ?_)
        · have hf := hf.1 c88
          refine lv_iload_n hx hb dX5_jacks_107 rfl (lv_at hl 3 rfl) ?_
          refine lv_istore_n (lv' := [(2, .int j84_x2), (6, .int j84_k0), (0, .ref a_t), (1, .int g31_x1), (3, .int j84_x3), (5, .int j84_x5)]) hx hb dX5_jacks_108 rfl hl (by decide) rfl (fun ls hl => ?_)
          refine lv_iinc (v := j84_x3 + 1) (lv' := [(3, .int (j84_x3 + 1)), (2, .int j84_x2), (6, .int j84_k0), (0, .ref a_t), (1, .int g31_x1), (5, .int j84_x5)]) hx hb dX5_jacks_109 hl (k := 4) rfl (by rw [kc_i_1]) (by decide) rfl (fun ls hl => ?_)
          refine lv_goto (tgt := 31) hx hb dX5_jacks_112 (by decide) ?_
          exact ih_31 j84_x2 (j84_x3 + 1) ls H locs hf (lv_sub hl [3, 4, 1, 0] rfl) hP hD hS
        · have hf := hf.2 c88
          refine lv_iload_n hx hb dX5_jacks_91 rfl (lv_at hl 3 rfl) ?_
          refine lv_iconst hx hb dX5_jacks_92 kc_i_m1 ?_
          refine lv_icmp_eq (tgt := 102) hx hb dX5_jacks_93 (by decide) (fun c93 => ?_) (fun c93 => ?_)
          · have hf := hf.1 c93
            exact J_102 j84_x3 j84_x5 ls H locs hf (lv_sub hl [1, 2, 4, 5] rfl) hP hD hS
          · have hf := hf.2 c93
            refine lv_iload hx hb dX5_jacks_96 (lv_at hl 5 rfl) ?_
            refine lv_iload_n hx hb dX5_jacks_98 rfl (lv_at hl 3 rfl) ?_
            refine lv_icmp_ge (tgt := 107) hx hb dX5_jacks_99 (by decide) (fun c99 => ?_) (fun c99 => ?_)
            · have hf := hf.1 c99
              refine lv_iload_n hx hb dX5_jacks_107 rfl (lv_at hl 3 rfl) ?_
              refine lv_istore_n (lv' := [(2, .int j84_x2), (6, .int j84_k0), (0, .ref a_t), (1, .int g31_x1), (3, .int j84_x3), (5, .int j84_x5)]) hx hb dX5_jacks_108 rfl hl (by decide) rfl (fun ls hl => ?_)
              refine lv_iinc (v := j84_x3 + 1) (lv' := [(3, .int (j84_x3 + 1)), (2, .int j84_x2), (6, .int j84_k0), (0, .ref a_t), (1, .int g31_x1), (5, .int j84_x5)]) hx hb dX5_jacks_109 hl (k := 4) rfl (by rw [kc_i_1]) (by decide) rfl (fun ls hl => ?_)
              refine lv_goto (tgt := 31) hx hb dX5_jacks_112 (by decide) ?_
              exact ih_31 j84_x2 (j84_x3 + 1) ls H locs hf (lv_sub hl [3, 4, 1, 0] rfl) hP hD hS
            · have hf := hf.2 c99
              exact J_102 j84_x3 j84_x5 ls H locs hf (lv_sub hl [1, 2, 4, 5] rfl) hP hD hS
      have J_83 : ∀ (j83_x2 : Int32) (j83_x3 : Int32) (j83_x5 : Int32) (ls : Array Slot) (H : Heap) (locs : List Loc), f_X5_jacks_83 v_storeys v_storey v_pairs v_pair (mx_l2 (f_X5_jacks_31 v_storeys v_storey v_pairs v_pair post g31_x1 g31_v_ends g31_v_ways) n_31) post g31_x1 j83_x2 j83_x3 j83_x5 g31_v_ends g31_v_ways → lv_has ls 7 [(0, .ref a_t), (1, .int g31_x1), (2, .int j83_x2), (3, .int j83_x3), (5, .int j83_x5)] → va_P E.1 vwCl (w_X5_jacks E a_t a_storey a_wind a_pair a_text a_read a_now a_image a_isKept a_row a_sight a_ways a_ends a_tried v_storeys v_jacks v_soft v_pairs v_bytes v_position v_tokenAt v_token v_digits v_number v_faultAt v_readMany v_readStoreys v_readPairs v_rows v_sights g31_v_ends v_storey v_pair g31_v_ways) H → va_D A (w_X5_jacks E a_t a_storey a_wind a_pair a_text a_read a_now a_image a_isKept a_row a_sight a_ways a_ends a_tried v_storeys v_jacks v_soft v_pairs v_bytes v_position v_tokenAt v_token v_digits v_number v_faultAt v_readMany v_readStoreys v_readPairs v_rows v_sights g31_v_ends v_storey v_pair g31_v_ways) → va_S A s.heap H locs → W p l e rm_X5_jacks s m args below meth c H locs 0 0 Q (F0 m 83 ls []) := by
        intro j83_x2 j83_x3 j83_x5 ls H locs hf hl hP hD hS
        refine lv_iconst hx hb dX5_jacks_83 kc_i_0 ?_
        exact J_84 j83_x2 j83_x3 j83_x5 0 ls H locs hf (lv_sub hl [0, 1, 2, 3, 4] rfl) hP hD hS
      intro j31_x2 j31_x3 ls H locs hf hl hP hD hS
      replace hf : f_X5_jacks_31 v_storeys v_storey v_pairs v_pair post g31_x1 g31_v_ends g31_v_ways (mx_l2 (f_X5_jacks_31 v_storeys v_storey v_pairs v_pair post g31_x1 g31_v_ends g31_v_ways) n_31) j31_x2 j31_x3 := hf
      refine lv_iload_n hx hb dX5_jacks_31 rfl (lv_at hl 3 rfl) ?_
      refine lv_aload_n hx hb dX5_jacks_32 rfl (lv_at hl 0 rfl) ?_
      refine gf_X5_57 hB hP 0 rfl rfl dX5_jacks_33 ?_
      refine lv_icmp_ge (tgt := 115) hx hb dX5_jacks_36 (by decide) (fun c36 => ?_) (fun c36 => ?_)
      · have hf := hf.1 c36
        refine lv_iload_n hx hb dX5_jacks_115 rfl (lv_at hl 2 rfl) ?_
        exact hRet j31_x2 (g31_v_ends, g31_v_ways) 116 ls H locs dX5_jacks_116 hf hP hS
      · have hf := hf.2 c36
        refine lv_iload_n hx hb dX5_jacks_39 rfl (lv_at hl 1 rfl) ?_
        refine lv_iconst hx hb dX5_jacks_40 kc_i_1 ?_
        refine lv_iload_n hx hb dX5_jacks_41 rfl (lv_at hl 3 rfl) ?_
        refine lv_ishl hx hb dX5_jacks_42 ?_
        refine lv_iconst hx hb dX5_jacks_43 kc_i_m1 ?_
        refine lv_ixor hx hb dX5_jacks_44 ?_
        refine lv_iand hx hb dX5_jacks_45 ?_
        refine lv_istore (lv' := [(4, .int (g31_x1 &&& ((1 <<< (j31_x3 &&& 31)) ^^^ (-1)))), (0, .ref a_t), (1, .int g31_x1), (2, .int j31_x2), (3, .int j31_x3)]) hx hb dX5_jacks_46 hl (by decide) rfl (fun ls hl => ?_)
        refine lv_aload_n hx hb dX5_jacks_48 rfl (lv_at hl 1 rfl) ?_
        refine lv_iload hx hb dX5_jacks_49 (lv_at hl 0 rfl) ?_
        refine mx_gi (mx_runV (As := [.int (g31_x1 &&& ((1 <<< (j31_x3 &&& 31)) ^^^ (-1)))]) (rest := []) hB (c_X5_loadOfAll l E a_t a_storey a_wind a_pair a_text a_read a_now a_image a_isKept a_row a_sight a_ways a_ends a_tried v_storeys v_jacks v_soft v_pairs v_bytes v_position v_tokenAt v_token v_digits v_number v_faultAt v_readMany v_readStoreys v_readPairs v_rows v_sights v_storey (g31_x1 &&& ((1 <<< (j31_x3 &&& 31)) ^^^ (-1))) _ hf) sB_X5_loadOfAll sV_X5_loadOfAll wml_X5_186 rfl (mx_ppV hB hP [0, 2] rfl 5 rfl rfl rfl) hl.1 rfl (Nat.le_of_ble_eq_true rfl) dX5_jacks_51 ⟨Nat.zero_le _, Nat.zero_le _⟩) (fun r1 hf => ?_)
        refine lv_istore (lv' := [(5, .int r1), (4, .int (g31_x1 &&& ((1 <<< (j31_x3 &&& 31)) ^^^ (-1)))), (0, .ref a_t), (1, .int g31_x1), (2, .int j31_x2), (3, .int j31_x3)]) hx hb dX5_jacks_54 hl (by decide) rfl (fun ls hl => ?_)
        refine lv_aload_n hx hb dX5_jacks_56 rfl (lv_at hl 2 rfl) ?_
        refine gf_X5_48 hB hP 0 rfl rfl dX5_jacks_57 ?_
        refine lv_iload hx hb dX5_jacks_60 (lv_at hl 1 rfl) ?_
        obtain ⟨h_in, hf⟩ := hf
        refine va_iald hx hb hB.K hP 4 0 rfl rfl h_in dX5_jacks_62 ?_
        refine lv_if_le (tgt := 83) hx hb dX5_jacks_63 (by decide) (fun c63 => ?_) (fun c63 => ?_)
        · have hf := hf.1 c63
          exact J_83 j31_x2 j31_x3 r1 ls H locs hf (lv_sub hl [2, 3, 4, 5, 0] rfl) hP hD hS
        · have hf := hf.2 c63
          refine lv_aload_n hx hb dX5_jacks_66 rfl (lv_at hl 2 rfl) ?_
          refine lv_iload_n hx hb dX5_jacks_67 rfl (lv_at hl 5 rfl) ?_
          refine lv_iload hx hb dX5_jacks_68 (lv_at hl 1 rfl) ?_
          refine lv_sipush hx hb dX5_jacks_70 kc_s_9999 ?_
          refine mx_gi (mx_runV (As := [.int j31_x3, .int (g31_x1 &&& ((1 <<< (j31_x3 &&& 31)) ^^^ (-1))), .int 9999]) (rest := []) hB (c_X5_whyBy l E a_t a_storey a_wind a_pair a_text a_read a_now a_image a_isKept a_row a_sight a_ways a_ends a_tried v_storeys v_jacks v_soft v_pairs v_bytes v_position v_tokenAt v_token v_digits v_number v_faultAt v_readMany v_readStoreys v_readPairs v_rows v_sights v_storey v_pair j31_x3 (g31_x1 &&& ((1 <<< (j31_x3 &&& 31)) ^^^ (-1))) 9999 _ hf) sB_X5_whyBy sV_X5_whyBy wml_X5_196 rfl (mx_ppV hB hP [0, 2, 3] rfl 5 rfl rfl rfl) hl.1 rfl (Nat.le_of_ble_eq_true rfl) dX5_jacks_73 ⟨Nat.zero_le _, Nat.zero_le _⟩) (fun r2 hf => ?_)
          refine lv_if_ne (tgt := 83) hx hb dX5_jacks_76 (by decide) (fun c76 => ?_) (fun c76 => ?_)
          · have hf := hf.1 c76
            exact J_83 j31_x2 j31_x3 r1 ls H locs hf (lv_sub hl [2, 3, 4, 5, 0] rfl) hP hD hS
          · have hf := hf.2 c76
            refine lv_iconst hx hb dX5_jacks_79 kc_i_1 ?_
            refine lv_goto (tgt := 84) hx hb dX5_jacks_80 (by decide) ?_
            exact J_84 j31_x2 j31_x3 r1 1 ls H locs hf (lv_sub hl [2, 3, 4, 5, 0] rfl) hP hD hS
  have J_21 : ∀ (j21_x1 : Int32) (j21_k0 : Int32) (j21_v_ends : (Nat → Int32)) (j21_v_ways : (Nat → Int32)) (ls : Array Slot) (H : Heap) (locs : List Loc), f_X5_jacks_21 v_storeys v_storey v_pairs v_pair post j21_x1 j21_k0 j21_v_ends j21_v_ways → lv_has ls 7 [(0, .ref a_t), (1, .int j21_x1)] → va_P E.1 vwCl (w_X5_jacks E a_t a_storey a_wind a_pair a_text a_read a_now a_image a_isKept a_row a_sight a_ways a_ends a_tried v_storeys v_jacks v_soft v_pairs v_bytes v_position v_tokenAt v_token v_digits v_number v_faultAt v_readMany v_readStoreys v_readPairs v_rows v_sights j21_v_ends v_storey v_pair j21_v_ways) H → va_D A (w_X5_jacks E a_t a_storey a_wind a_pair a_text a_read a_now a_image a_isKept a_row a_sight a_ways a_ends a_tried v_storeys v_jacks v_soft v_pairs v_bytes v_position v_tokenAt v_token v_digits v_number v_faultAt v_readMany v_readStoreys v_readPairs v_rows v_sights j21_v_ends v_storey v_pair j21_v_ways) → va_S A s.heap H locs → W p l e rm_X5_jacks s m args below meth c H locs 0 0 Q (F0 m 21 ls [.int j21_k0]) := by
    intro j21_x1 j21_k0 j21_v_ends j21_v_ways ls H locs hf hl hP hD hS
    refine lv_istore_n (lv' := [(2, .int j21_k0), (0, .ref a_t), (1, .int j21_x1)]) hx hb dX5_jacks_21 rfl hl (by decide) rfl (fun ls hl => ?_)
    refine lv_aload_n hx hb dX5_jacks_22 rfl (lv_at hl 1 rfl) ?_
    refine lv_sipush hx hb dX5_jacks_23 kc_s_9999 ?_
    refine mx_wv (mx_runV (As := [.int 9999]) (rest := []) hB (c_X5_layWays l E a_t a_storey a_wind a_pair a_text a_read a_now a_image a_isKept a_row a_sight a_ways a_ends a_tried v_storeys v_jacks v_soft v_pairs v_bytes v_position v_tokenAt v_token v_digits v_number v_faultAt v_readMany v_readStoreys v_readPairs v_rows v_sights j21_v_ends v_storey v_pair j21_v_ways H.size 9999 _ hf) sB_X5_layWays sV_X5_layWays wml_X5_206 rfl (mx_pwV hB hP hD [0, 1, 2, 3, 4] (by decide) rfl rfl 5 rfl rfl rfl) hl.1 rfl (Nat.le_of_ble_eq_true rfl) dX5_jacks_26 ⟨Nat.zero_le _, Nat.zero_le _⟩) hP hD hS hA [0, 1, 2, 3, 4] [] 5 rfl (fun u => w_X5_jacks E a_t a_storey a_wind a_pair a_text a_read a_now a_image a_isKept a_row a_sight a_ways a_ends a_tried v_storeys v_jacks v_soft v_pairs v_bytes v_position v_tokenAt v_token v_digits v_number v_faultAt v_readMany v_readStoreys v_readPairs v_rows v_sights u.1 v_storey v_pair u.2) (fun _ => rfl) (by decide) (fun _ => rfl) (fun _ => rfl) rfl (fun _ => rfl) (fun u H locs hf hP hD hS => ?_)
    obtain ⟨u2, u3⟩ := u
    have hP : va_P E.1 vwCl (w_X5_jacks E a_t a_storey a_wind a_pair a_text a_read a_now a_image a_isKept a_row a_sight a_ways a_ends a_tried v_storeys v_jacks v_soft v_pairs v_bytes v_position v_tokenAt v_token v_digits v_number v_faultAt v_readMany v_readStoreys v_readPairs v_rows v_sights u2 v_storey v_pair u3) H := hP
    have hD : va_D A (w_X5_jacks E a_t a_storey a_wind a_pair a_text a_read a_now a_image a_isKept a_row a_sight a_ways a_ends a_tried v_storeys v_jacks v_soft v_pairs v_bytes v_position v_tokenAt v_token v_digits v_number v_faultAt v_readMany v_readStoreys v_readPairs v_rows v_sights u2 v_storey v_pair u3) := hD
    refine lv_iconst hx hb dX5_jacks_29 kc_i_0 ?_
    refine lv_istore_n (lv' := [(3, .int 0), (2, .int j21_k0), (0, .ref a_t), (1, .int j21_x1)]) hx hb dX5_jacks_30 rfl hl (by decide) rfl (fun ls hl => ?_)
    obtain ⟨n9, hf⟩ := hf
    exact L_31 j21_x1 u2 u3 n9 j21_k0 0 ls H locs hf (lv_sub hl [2, 3, 1, 0] rfl) hP hD hS
  obtain ⟨H, locs, eH, eL⟩ : ∃ (H : Heap) (locs : List Loc), H = s.heap ∧ locs = [] := ⟨_, _, rfl, rfl⟩
  rw [← eH] at hP
  have hS : va_S A s.heap H locs := by rw [eH, eL]; exact hS
  show W p l e rm_X5_jacks s m args below meth c s.heap [] 0 0 Q (F0 m 0 ls [])
  rw [← eH, ← eL]
  refine lv_iconst hx hb dX5_jacks_0 kc_i_1 ?_
  refine lv_aload_n hx hb dX5_jacks_1 rfl (lv_at hl 0 rfl) ?_
  refine gf_X5_57 hB hP 0 rfl rfl dX5_jacks_2 ?_
  refine lv_ishl hx hb dX5_jacks_5 ?_
  refine lv_iconst hx hb dX5_jacks_6 kc_i_1 ?_
  refine lv_isub hx hb dX5_jacks_7 ?_
  refine lv_istore_n (lv' := [(1, .int ((1 <<< (v_storeys &&& 31)) - 1)), (0, .ref a_t)]) hx hb dX5_jacks_8 rfl hl (by decide) rfl (fun ls hl => ?_)
  refine lv_aload_n hx hb dX5_jacks_9 rfl (lv_at hl 1 rfl) ?_
  refine gf_X5_57 hB hP 0 rfl rfl dX5_jacks_10 ?_
  refine lv_if_ne (tgt := 20) hx hb dX5_jacks_13 (by decide) (fun c13 => ?_) (fun c13 => ?_)
  · have hf := hf.1 c13
    refine lv_iconst hx hb dX5_jacks_20 kc_i_m1 ?_
    exact J_21 ((1 <<< (v_storeys &&& 31)) - 1) (-1) v_ends v_ways ls H locs hf (lv_sub hl [1, 0] rfl) hP hD hS
  · have hf := hf.2 c13
    refine lv_iconst hx hb dX5_jacks_16 kc_i_0 ?_
    refine lv_goto (tgt := 21) hx hb dX5_jacks_17 (by decide) ?_
    exact J_21 ((1 <<< (v_storeys &&& 31)) - 1) 0 v_ends v_ways ls H locs hf (lv_sub hl [1, 0] rfl) hP hD hS
theorem c_X5_jacks (l : Launch) (E : mx_E) (a_t : Nat) (a_storey : Nat) (a_wind : Nat) (a_pair : Nat) (a_text : Nat) (a_read : Nat) (a_now : Nat) (a_image : Nat) (a_isKept : Nat) (a_row : Nat) (a_sight : Nat) (a_ways : Nat) (a_ends : Nat) (a_tried : Nat) (v_storeys : Int32) (v_jacks : Int32) (v_soft : Int32) (v_pairs : Int32) (v_bytes : Int32) (v_position : Int32) (v_tokenAt : Int32) (v_token : Int64) (v_digits : Int32) (v_number : Int32) (v_faultAt : Int32) (v_readMany : Int32) (v_readStoreys : Int32) (v_readPairs : Int32) (v_rows : Int32) (v_sights : Int32) (v_ends : (Nat → Int32)) (v_storey : (Nat → Int32)) (v_pair : (Nat → Int32)) (v_ways : (Nat → Int32)) (sz : Nat)  (post : Int32 → (Nat → Int32) → (Nat → Int32) → Prop) (hf : f_X5_jacks v_storeys v_storey v_pairs v_pair v_ends v_ways post) : Met l yX5_jacks (Cond.code yX5_jacks cX5_jacks 7 (some .int) :: mx_WS) rm_X5_jacks (va_Pc [.ref a_t] (mx_Pw E (w_X5_jacks E a_t a_storey a_wind a_pair a_text a_read a_now a_image a_isKept a_row a_sight a_ways a_ends a_tried v_storeys v_jacks v_soft v_pairs v_bytes v_position v_tokenAt v_token v_digits v_number v_faultAt v_readMany v_readStoreys v_readPairs v_rows v_sights v_ends v_storey v_pair v_ways) sz)) (va_Qi (fun (v : Int32) (u : (Nat → Int32) × (Nat → Int32)) => post v u.1 u.2) (fun u t => va_P E.1 vwCl (w_X5_jacks E a_t a_storey a_wind a_pair a_text a_read a_now a_image a_isKept a_row a_sight a_ways a_ends a_tried v_storeys v_jacks v_soft v_pairs v_bytes v_position v_tokenAt v_token v_digits v_number v_faultAt v_readMany v_readStoreys v_readPairs v_rows v_sights u.1 v_storey v_pair u.2) t.heap) (va_A (w_X5_jacks E a_t a_storey a_wind a_pair a_text a_read a_now a_image a_isKept a_row a_sight a_ways a_ends a_tried v_storeys v_jacks v_soft v_pairs v_bytes v_position v_tokenAt v_token v_digits v_number v_faultAt v_readMany v_readStoreys v_readPairs v_rows v_sights v_ends v_storey v_pair v_ways) sz)) 0 0 (va_A (w_X5_jacks E a_t a_storey a_wind a_pair a_text a_read a_now a_image a_isKept a_row a_sight a_ways a_ends a_tried v_storeys v_jacks v_soft v_pairs v_bytes v_position v_tokenAt v_token v_digits v_number v_faultAt v_readMany v_readStoreys v_readPairs v_rows v_sights v_ends v_storey v_pair v_ways) sz) :=
  mx_metWi (by decide) rfl rfl (fun hB hP hD hA hRet ls hl => b_X5_jacks E a_t a_storey a_wind a_pair a_text a_read a_now a_image a_isKept a_row a_sight a_ways a_ends a_tried v_storeys v_jacks v_soft v_pairs v_bytes v_position v_tokenAt v_token v_digits v_number v_faultAt v_readMany v_readStoreys v_readPairs v_rows v_sights v_ends v_storey v_pair v_ways  post hB hP hD hA hRet hf ls hl)
