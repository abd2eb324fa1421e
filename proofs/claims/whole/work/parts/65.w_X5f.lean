def rm_X5_areSo : Room := { frames := 1, cells := 0, slots := 0, locals := 21 }
set_option maxHeartbeats 4000000 in
set_option maxRecDepth 100000 in
theorem b_X5_areSo {p : Program} {l : Launch} {e : Env} {s : State} {m : MethodId} {args : Array Value} {below : List Frame} {meth : Method} {c : Code} {Q : State → Prop} (E : mx_E) (a_t : Nat) (a_storey : Nat) (a_wind : Nat) (a_pair : Nat) (a_text : Nat) (a_read : Nat) (a_now : Nat) (a_image : Nat) (a_isKept : Nat) (a_row : Nat) (a_sight : Nat) (a_ways : Nat) (a_ends : Nat) (a_tried : Nat) (v_storeys : Int32) (v_jacks : Int32) (v_soft : Int32) (v_pairs : Int32) (v_bytes : Int32) (v_position : Int32) (v_tokenAt : Int32) (v_token : Int64) (v_digits : Int32) (v_number : Int32) (v_faultAt : Int32) (v_readMany : Int32) (v_readStoreys : Int32) (v_readPairs : Int32) (v_rows : Int32) (v_sights : Int32) (v_sight : (Nat → Int32)) (v_now : (Nat → Int32)) (v_storey : (Nat → Int32))  (post : Int32 → Prop) (hB : mx_B p m c cX5_areSo 5 s args RX5 E) (hP : va_P E.1 vwCl (w_X5_areSo E a_t a_storey a_wind a_pair a_text a_read a_now a_image a_isKept a_row a_sight a_ways a_ends a_tried v_storeys v_jacks v_soft v_pairs v_bytes v_position v_tokenAt v_token v_digits v_number v_faultAt v_readMany v_readStoreys v_readPairs v_rows v_sights v_sight v_now v_storey) s.heap) (hRet : ∀ (v : Int32) (pc : Nat) (ls : Array Slot), decode cX5_areSo pc = .ok (.ireturn, 1) → (v = 0 ∨ v = 1) → post v → W p l e rm_X5_areSo s m args below meth c s.heap [] 0 0 Q (F0 m pc ls [.int v])) (hf : f_X5_areSo v_sights v_sight v_soft v_now v_storey post) (ls : Array Slot) (hl : lv_has ls 5 [(0, .ref a_t)]) : W p l e rm_X5_areSo s m args below meth c s.heap [] 0 0 Q (F0 m 0 ls []) := by
  have hx := hB.x
  have hb := hB.b
  have L_4 : ∀  (n : Nat) (j4_x1 : Int32) (j4_x2 : Int32) (ls : Array Slot), mx_l2 (f_X5_areSo_4 v_sights v_sight v_soft v_now v_storey post) n j4_x1 j4_x2 → lv_has ls 5 [(0, .ref a_t), (1, .int j4_x1), (2, .int j4_x2)] → W p l e rm_X5_areSo s m args below meth c s.heap [] 0 0 Q (F0 m 4 ls []) := by
    intro  n_4
    induction n_4 with
    | zero =>
      intro j4_x1 j4_x2 ls hf hl
      exact False.elim hf
    | succ n_4 ih_4 =>
      have J_52 : ∀ (j52_x1 : Int32) (j52_x2 : Int32) (j52_x3 : Int32) (ls : Array Slot), f_X5_areSo_52 v_sights v_sight v_soft v_now v_storey (mx_l2 (f_X5_areSo_4 v_sights v_sight v_soft v_now v_storey post) n_4) post j52_x1 j52_x2 j52_x3 → lv_has ls 5 [(0, .ref a_t), (1, .int j52_x1), (2, .int j52_x2), (3, .int j52_x3)] → W p l e rm_X5_areSo s m args below meth c s.heap [] 0 0 Q (F0 m 52 ls []) := by
        intro j52_x1 j52_x2 j52_x3 ls hf hl
        refine lv_iload_n hx hb dX5_areSo_52 rfl (lv_at hl 1 rfl) ?_
        refine lv_if_eq (tgt := 79) hx hb dX5_areSo_53 (by decide) (fun c53 => ?_) (fun c53 => ?_)
        · have hf := hf.1 c53
          refine lv_iconst hx hb dX5_areSo_79 kc_i_0 ?_
          refine lv_istore_n (lv' := [(1, .int 0), (0, .ref a_t), (2, .int j52_x2), (3, .int j52_x3)]) hx hb dX5_areSo_80 rfl hl (by decide) rfl (fun ls hl => ?_)
          refine lv_iinc (v := j52_x2 + 1) (lv' := [(2, .int (j52_x2 + 1)), (1, .int 0), (0, .ref a_t), (3, .int j52_x3)]) hx hb dX5_areSo_81 hl (k := 2) rfl (by rw [kc_i_1]) (by decide) rfl (fun ls hl => ?_)
          refine lv_goto (tgt := 4) hx hb dX5_areSo_84 (by decide) ?_
          exact ih_4 0 (j52_x2 + 1) ls hf (lv_sub hl [2, 1, 0] rfl)
        · have hf := hf.2 c53
          refine lv_iload_n hx hb dX5_areSo_56 rfl (lv_at hl 3 rfl) ?_
          refine lv_aload_n hx hb dX5_areSo_57 rfl (lv_at hl 0 rfl) ?_
          refine gf_X5_17 hB hP 0 rfl rfl dX5_areSo_58 ?_
          obtain ⟨h_nz, hf⟩ := hf
          refine lv_idiv hx hb dX5_areSo_61 h_nz ?_
          refine lv_aload_n hx hb dX5_areSo_62 rfl (lv_at hl 0 rfl) ?_
          refine gf_X5_45 hB hP 0 rfl rfl dX5_areSo_63 ?_
          refine lv_iconst hx hb dX5_areSo_66 kc_i_2 ?_
          refine lv_iload_n hx hb dX5_areSo_67 rfl (lv_at hl 2 rfl) ?_
          refine lv_imul hx hb dX5_areSo_68 ?_
          refine lv_iconst hx hb dX5_areSo_69 kc_i_1 ?_
          refine lv_iadd hx hb dX5_areSo_70 ?_
          obtain ⟨h_in, hf⟩ := hf
          refine va_iald hx hb hB.K hP 1 0 rfl rfl h_in dX5_areSo_71 ?_
          refine lv_icmp_ne (tgt := 79) hx hb dX5_areSo_72 (by decide) (fun c72 => ?_) (fun c72 => ?_)
          · have hf := hf.1 c72
            refine lv_iconst hx hb dX5_areSo_79 kc_i_0 ?_
            refine lv_istore_n (lv' := [(1, .int 0), (0, .ref a_t), (2, .int j52_x2), (3, .int j52_x3)]) hx hb dX5_areSo_80 rfl hl (by decide) rfl (fun ls hl => ?_)
            refine lv_iinc (v := j52_x2 + 1) (lv' := [(2, .int (j52_x2 + 1)), (1, .int 0), (0, .ref a_t), (3, .int j52_x3)]) hx hb dX5_areSo_81 hl (k := 2) rfl (by rw [kc_i_1]) (by decide) rfl (fun ls hl => ?_)
            refine lv_goto (tgt := 4) hx hb dX5_areSo_84 (by decide) ?_
            exact ih_4 0 (j52_x2 + 1) ls hf (lv_sub hl [2, 1, 0] rfl)
          · have hf := hf.2 c72
            refine lv_iconst hx hb dX5_areSo_75 kc_i_1 ?_
            refine lv_goto (tgt := 80) hx hb dX5_areSo_76 (by decide) ?_
            refine lv_istore_n (lv' := [(1, .int 1), (0, .ref a_t), (2, .int j52_x2), (3, .int j52_x3)]) hx hb dX5_areSo_80 rfl hl (by decide) rfl (fun ls hl => ?_)
            refine lv_iinc (v := j52_x2 + 1) (lv' := [(2, .int (j52_x2 + 1)), (1, .int 1), (0, .ref a_t), (3, .int j52_x3)]) hx hb dX5_areSo_81 hl (k := 2) rfl (by rw [kc_i_1]) (by decide) rfl (fun ls hl => ?_)
            refine lv_goto (tgt := 4) hx hb dX5_areSo_84 (by decide) ?_
            exact ih_4 1 (j52_x2 + 1) ls hf (lv_sub hl [2, 1, 0] rfl)
      have L_17 : ∀ (g17_x1 : Int32) (g17_x2 : Int32) (n : Nat) (j17_x3 : Int32) (j17_x4 : Int32) (ls : Array Slot), mx_l2 (f_X5_areSo_17 v_sights v_sight v_soft v_now v_storey (mx_l2 (f_X5_areSo_4 v_sights v_sight v_soft v_now v_storey post) n_4) post g17_x1 g17_x2) n j17_x3 j17_x4 → lv_has ls 5 [(0, .ref a_t), (1, .int g17_x1), (2, .int g17_x2), (3, .int j17_x3), (4, .int j17_x4)] → W p l e rm_X5_areSo s m args below meth c s.heap [] 0 0 Q (F0 m 17 ls []) := by
        intro g17_x1 g17_x2 n_17
        induction n_17 with
        | zero =>
          intro j17_x3 j17_x4 ls hf hl
          exact False.elim hf
        | succ n_17 ih_17 =>
          intro j17_x3 j17_x4 ls hf hl
          replace hf : f_X5_areSo_17 v_sights v_sight v_soft v_now v_storey (mx_l2 (f_X5_areSo_4 v_sights v_sight v_soft v_now v_storey post) n_4) post g17_x1 g17_x2 (mx_l2 (f_X5_areSo_17 v_sights v_sight v_soft v_now v_storey (mx_l2 (f_X5_areSo_4 v_sights v_sight v_soft v_now v_storey post) n_4) post g17_x1 g17_x2) n_17) j17_x3 j17_x4 := hf
          refine lv_iload hx hb dX5_areSo_17 (lv_at hl 4 rfl) ?_
          refine lv_aload_n hx hb dX5_areSo_19 rfl (lv_at hl 0 rfl) ?_
          refine gf_X5_45 hB hP 0 rfl rfl dX5_areSo_20 ?_
          refine lv_iconst hx hb dX5_areSo_23 kc_i_2 ?_
          refine lv_iload_n hx hb dX5_areSo_24 rfl (lv_at hl 2 rfl) ?_
          refine lv_imul hx hb dX5_areSo_25 ?_
          obtain ⟨h_in, hf⟩ := hf
          refine va_iald hx hb hB.K hP 1 0 rfl rfl h_in dX5_areSo_26 ?_
          refine lv_icmp_ge (tgt := 52) hx hb dX5_areSo_27 (by decide) (fun c27 => ?_) (fun c27 => ?_)
          · have hf := hf.1 c27
            exact J_52 g17_x1 g17_x2 j17_x3 ls hf (lv_sub hl [0, 1, 2, 3] rfl)
          · have hf := hf.2 c27
            refine lv_iload_n hx hb dX5_areSo_30 rfl (lv_at hl 3 rfl) ?_
            refine lv_aload_n hx hb dX5_areSo_31 rfl (lv_at hl 0 rfl) ?_
            refine lv_aload_n hx hb dX5_areSo_32 rfl (lv_at hl 0 rfl) ?_
            refine gf_X5_32 hB hP 0 rfl rfl dX5_areSo_33 ?_
            refine lv_iconst hx hb dX5_areSo_36 kc_i_2 ?_
            refine lv_iload hx hb dX5_areSo_37 (lv_at hl 4 rfl) ?_
            refine lv_iadd hx hb dX5_areSo_39 ?_
            obtain ⟨h_in, hf⟩ := hf
            refine va_iald hx hb hB.K hP 2 0 rfl rfl h_in dX5_areSo_40 ?_
            refine mx_gi (mx_runV (As := [.int (v_now (2 + j17_x4).toNatClampNeg)]) (rest := [.int j17_x3]) hB (c_X5_loadOf l E a_t a_storey a_wind a_pair a_text a_read a_now a_image a_isKept a_row a_sight a_ways a_ends a_tried v_storeys v_jacks v_soft v_pairs v_bytes v_position v_tokenAt v_token v_digits v_number v_faultAt v_readMany v_readStoreys v_readPairs v_rows v_sights v_storey (v_now (2 + j17_x4).toNatClampNeg) _ hf) sB_X5_loadOf sV_X5_loadOf wml_X5_175 rfl (mx_ppV hB hP [0, 3] rfl 5 rfl rfl rfl) hl.1 rfl (Nat.le_of_ble_eq_true rfl) dX5_areSo_41 ⟨Nat.zero_le _, Nat.zero_le _⟩) (fun r1 hf => ?_)
            refine lv_iadd hx hb dX5_areSo_44 ?_
            refine lv_istore_n (lv' := [(3, .int (j17_x3 + r1)), (0, .ref a_t), (1, .int g17_x1), (2, .int g17_x2), (4, .int j17_x4)]) hx hb dX5_areSo_45 rfl hl (by decide) rfl (fun ls hl => ?_)
            refine lv_iinc (v := j17_x4 + 1) (lv' := [(4, .int (j17_x4 + 1)), (3, .int (j17_x3 + r1)), (0, .ref a_t), (1, .int g17_x1), (2, .int g17_x2)]) hx hb dX5_areSo_46 hl (k := 4) rfl (by rw [kc_i_1]) (by decide) rfl (fun ls hl => ?_)
            refine lv_goto (tgt := 17) hx hb dX5_areSo_49 (by decide) ?_
            exact ih_17 (j17_x3 + r1) (j17_x4 + 1) ls hf (lv_sub hl [2, 3, 4, 1, 0] rfl)
      intro j4_x1 j4_x2 ls hf hl
      replace hf : f_X5_areSo_4 v_sights v_sight v_soft v_now v_storey post (mx_l2 (f_X5_areSo_4 v_sights v_sight v_soft v_now v_storey post) n_4) j4_x1 j4_x2 := hf
      refine lv_iload_n hx hb dX5_areSo_4 rfl (lv_at hl 2 rfl) ?_
      refine lv_aload_n hx hb dX5_areSo_5 rfl (lv_at hl 0 rfl) ?_
      refine gf_X5_169 hB hP 0 rfl rfl dX5_areSo_6 ?_
      refine lv_icmp_ge (tgt := 87) hx hb dX5_areSo_9 (by decide) (fun c9 => ?_) (fun c9 => ?_)
      · have hf := hf.1 c9
        refine lv_iload_n hx hb dX5_areSo_87 rfl (lv_at hl 1 rfl) ?_
        obtain ⟨h01, hf⟩ := hf
        exact hRet j4_x1 88 ls dX5_areSo_88 h01 hf
      · have hf := hf.2 c9
        refine lv_iconst hx hb dX5_areSo_12 kc_i_0 ?_
        refine lv_istore_n (lv' := [(3, .int 0), (0, .ref a_t), (1, .int j4_x1), (2, .int j4_x2)]) hx hb dX5_areSo_13 rfl hl (by decide) rfl (fun ls hl => ?_)
        refine lv_iconst hx hb dX5_areSo_14 kc_i_0 ?_
        refine lv_istore (lv' := [(4, .int 0), (3, .int 0), (0, .ref a_t), (1, .int j4_x1), (2, .int j4_x2)]) hx hb dX5_areSo_15 hl (by decide) rfl (fun ls hl => ?_)
        obtain ⟨n9, hf⟩ := hf
        exact L_17 j4_x1 j4_x2 n9 0 0 ls hf (lv_sub hl [2, 3, 4, 1, 0] rfl)
  refine lv_iconst hx hb dX5_areSo_0 kc_i_1 ?_
  refine lv_istore_n (lv' := [(1, .int 1), (0, .ref a_t)]) hx hb dX5_areSo_1 rfl hl (by decide) rfl (fun ls hl => ?_)
  refine lv_iconst hx hb dX5_areSo_2 kc_i_0 ?_
  refine lv_istore_n (lv' := [(2, .int 0), (1, .int 1), (0, .ref a_t)]) hx hb dX5_areSo_3 rfl hl (by decide) rfl (fun ls hl => ?_)
  obtain ⟨n9, hf⟩ := hf
  exact L_4  n9 1 0 ls hf (lv_sub hl [2, 1, 0] rfl)
theorem c_X5_areSo (l : Launch) (E : mx_E) (a_t : Nat) (a_storey : Nat) (a_wind : Nat) (a_pair : Nat) (a_text : Nat) (a_read : Nat) (a_now : Nat) (a_image : Nat) (a_isKept : Nat) (a_row : Nat) (a_sight : Nat) (a_ways : Nat) (a_ends : Nat) (a_tried : Nat) (v_storeys : Int32) (v_jacks : Int32) (v_soft : Int32) (v_pairs : Int32) (v_bytes : Int32) (v_position : Int32) (v_tokenAt : Int32) (v_token : Int64) (v_digits : Int32) (v_number : Int32) (v_faultAt : Int32) (v_readMany : Int32) (v_readStoreys : Int32) (v_readPairs : Int32) (v_rows : Int32) (v_sights : Int32) (v_sight : (Nat → Int32)) (v_now : (Nat → Int32)) (v_storey : (Nat → Int32))  (post : Int32 → Prop) (hf : f_X5_areSo v_sights v_sight v_soft v_now v_storey post) : Met l yX5_areSo (Cond.code yX5_areSo cX5_areSo 5 (some .boolean) :: mx_WS) rm_X5_areSo (va_Pc [.ref a_t] (mx_Pp E (w_X5_areSo E a_t a_storey a_wind a_pair a_text a_read a_now a_image a_isKept a_row a_sight a_ways a_ends a_tried v_storeys v_jacks v_soft v_pairs v_bytes v_position v_tokenAt v_token v_digits v_number v_faultAt v_readMany v_readStoreys v_readPairs v_rows v_sights v_sight v_now v_storey))) (vp_Si post) 0 0 (fun _ => False) :=
  mx_metPz (by decide) rfl rfl (fun hB hP hRet ls hl => b_X5_areSo E a_t a_storey a_wind a_pair a_text a_read a_now a_image a_isKept a_row a_sight a_ways a_ends a_tried v_storeys v_jacks v_soft v_pairs v_bytes v_position v_tokenAt v_token v_digits v_number v_faultAt v_readMany v_readStoreys v_readPairs v_rows v_sights v_sight v_now v_storey  post hB hP hRet hf ls hl)
def rm_X5_fits : Room := { frames := 2, cells := 0, slots := 0, locals := 45 }
set_option maxHeartbeats 4000000 in
set_option maxRecDepth 100000 in
theorem b_X5_fits {p : Program} {l : Launch} {e : Env} {s : State} {m : MethodId} {args : Array Value} {below : List Frame} {meth : Method} {c : Code} {Q : State → Prop} {A : Nat → Prop} (E : mx_E) (a_t : Nat) (a_storey : Nat) (a_wind : Nat) (a_pair : Nat) (a_text : Nat) (a_read : Nat) (a_now : Nat) (a_image : Nat) (a_isKept : Nat) (a_row : Nat) (a_sight : Nat) (a_ways : Nat) (a_ends : Nat) (a_tried : Nat) (v_storeys : Int32) (v_jacks : Int32) (v_soft : Int32) (v_pairs : Int32) (v_bytes : Int32) (v_position : Int32) (v_tokenAt : Int32) (v_token : Int64) (v_digits : Int32) (v_number : Int32) (v_faultAt : Int32) (v_readMany : Int32) (v_readStoreys : Int32) (v_readPairs : Int32) (v_rows : Int32) (v_sights : Int32) (v_storey : (Nat → Int32)) (v_sight : (Nat → Int32)) (v_now : (Nat → Int32)) (x1 : Int32) (x2 : Int32) (post : Int32 → (Nat → Int32) → Prop) (hB : mx_B p m c cX5_fits 8 s args RX5 E) (hP : va_P E.1 vwCl (w_X5_fits E a_t a_storey a_wind a_pair a_text a_read a_now a_image a_isKept a_row a_sight a_ways a_ends a_tried v_storeys v_jacks v_soft v_pairs v_bytes v_position v_tokenAt v_token v_digits v_number v_faultAt v_readMany v_readStoreys v_readPairs v_rows v_sights v_storey v_sight v_now) s.heap) (hD : va_D A (w_X5_fits E a_t a_storey a_wind a_pair a_text a_read a_now a_image a_isKept a_row a_sight a_ways a_ends a_tried v_storeys v_jacks v_soft v_pairs v_bytes v_position v_tokenAt v_token v_digits v_number v_faultAt v_readMany v_readStoreys v_readPairs v_rows v_sights v_storey v_sight v_now)) (hA : ∀ q : Nat, s.heap.size ≤ q → A q) (hRet : ∀ (v : Int32) (u : (Nat → Int32)) (pc : Nat) (ls : Array Slot) (H : Heap) (locs : List Loc), decode cX5_fits pc = .ok (.ireturn, 1) → post v u → va_P E.1 vwCl (w_X5_fits E a_t a_storey a_wind a_pair a_text a_read a_now a_image a_isKept a_row a_sight a_ways a_ends a_tried v_storeys v_jacks v_soft v_pairs v_bytes v_position v_tokenAt v_token v_digits v_number v_faultAt v_readMany v_readStoreys v_readPairs v_rows v_sights u v_sight v_now) H → va_S A s.heap H locs → W p l e rm_X5_fits s m args below meth c H locs 0 0 Q (F0 m pc ls [.int v])) (hf : f_X5_fits v_storeys v_sights v_sight v_soft v_now v_storey x1 x2 post) (ls : Array Slot) (hl : lv_has ls 8 [(0, .ref a_t), (1, .int x1), (2, .int x2)]) : W p l e rm_X5_fits s m args below meth c s.heap [] 0 0 Q (F0 m 0 ls []) := by
  have hx := hB.x
  have hb := hB.b
  have hS : va_S A s.heap s.heap [] := va_S.rf
  have J_100 : ∀ (j100_x1 : Int32) (j100_x2 : Int32) (j100_x3 : Int32) (j100_x4 : Int32) (j100_x5 : Int32) (j100_x6 : Int32) (j100_v_storey : (Nat → Int32)) (ls : Array Slot) (H : Heap) (locs : List Loc), f_X5_fits_100 v_storeys v_sights v_sight v_soft v_now post j100_x1 j100_x2 j100_x3 j100_x4 j100_x5 j100_x6 j100_v_storey → lv_has ls 8 [(0, .ref a_t), (1, .int j100_x1), (2, .int j100_x2), (3, .int j100_x3), (4, .int j100_x4), (5, .int j100_x5), (6, .int j100_x6)] → va_P E.1 vwCl (w_X5_fits E a_t a_storey a_wind a_pair a_text a_read a_now a_image a_isKept a_row a_sight a_ways a_ends a_tried v_storeys v_jacks v_soft v_pairs v_bytes v_position v_tokenAt v_token v_digits v_number v_faultAt v_readMany v_readStoreys v_readPairs v_rows v_sights j100_v_storey v_sight v_now) H → va_D A (w_X5_fits E a_t a_storey a_wind a_pair a_text a_read a_now a_image a_isKept a_row a_sight a_ways a_ends a_tried v_storeys v_jacks v_soft v_pairs v_bytes v_position v_tokenAt v_token v_digits v_number v_faultAt v_readMany v_readStoreys v_readPairs v_rows v_sights j100_v_storey v_sight v_now) → va_S A s.heap H locs → W p l e rm_X5_fits s m args below meth c H locs 0 0 Q (F0 m 100 ls []) := by
    intro j100_x1 j100_x2 j100_x3 j100_x4 j100_x5 j100_x6 j100_v_storey ls H locs hf hl hP hD hS
    refine lv_aload_n hx hb dX5_fits_100 rfl (lv_at hl 0 rfl) ?_
    refine gf_X5_7 hB hP 0 rfl rfl dX5_fits_101 ?_
    refine lv_iconst hx hb dX5_fits_104 kc_i_5 ?_
    refine lv_iload_n hx hb dX5_fits_105 rfl (lv_at hl 1 rfl) ?_
    refine lv_imul hx hb dX5_fits_106 ?_
    refine lv_iconst hx hb dX5_fits_107 kc_i_1 ?_
    refine lv_iadd hx hb dX5_fits_108 ?_
    refine lv_iload_n hx hb dX5_fits_109 rfl (lv_at hl 3 rfl) ?_
    obtain ⟨h_in, hf⟩ := hf
    refine va_iast hx hb hB.K hP hD hS 1 0 rfl rfl h_in dX5_fits_110 (fun H locs hP hD hS => ?_)
    have hP : va_P E.1 vwCl (w_X5_fits E a_t a_storey a_wind a_pair a_text a_read a_now a_image a_isKept a_row a_sight a_ways a_ends a_tried v_storeys v_jacks v_soft v_pairs v_bytes v_position v_tokenAt v_token v_digits v_number v_faultAt v_readMany v_readStoreys v_readPairs v_rows v_sights (upd j100_v_storey ((5 * j100_x1) + 1).toNatClampNeg j100_x3) v_sight v_now) H := hP
    have hD : va_D A (w_X5_fits E a_t a_storey a_wind a_pair a_text a_read a_now a_image a_isKept a_row a_sight a_ways a_ends a_tried v_storeys v_jacks v_soft v_pairs v_bytes v_position v_tokenAt v_token v_digits v_number v_faultAt v_readMany v_readStoreys v_readPairs v_rows v_sights (upd j100_v_storey ((5 * j100_x1) + 1).toNatClampNeg j100_x3) v_sight v_now) := hD
    refine lv_iload_n hx hb dX5_fits_111 rfl (lv_at hl 2 rfl) ?_
    refine lv_if_ne (tgt := 120) hx hb dX5_fits_112 (by decide) (fun c112 => ?_) (fun c112 => ?_)
    · have hf := hf.1 c112
      refine lv_iload_n hx hb dX5_fits_120 rfl (lv_at hl 2 rfl) ?_
      refine lv_iconst hx hb dX5_fits_121 kc_i_1 ?_
      refine lv_icmp_ne (tgt := 130) hx hb dX5_fits_122 (by decide) (fun c122 => ?_) (fun c122 => ?_)
      · have hf := hf.1 c122
        refine lv_iload hx hb dX5_fits_130 (lv_at hl 6 rfl) ?_
        exact hRet j100_x6 (upd j100_v_storey ((5 * j100_x1) + 1).toNatClampNeg j100_x3) 132 ls H locs dX5_fits_132 hf hP hS
      · have hf := hf.2 c122
        refine lv_iload hx hb dX5_fits_125 (lv_at hl 5 rfl) ?_
        refine lv_goto (tgt := 132) hx hb dX5_fits_127 (by decide) ?_
        exact hRet j100_x5 (upd j100_v_storey ((5 * j100_x1) + 1).toNatClampNeg j100_x3) 132 ls H locs dX5_fits_132 hf hP hS
    · have hf := hf.2 c112
      refine lv_iload hx hb dX5_fits_115 (lv_at hl 4 rfl) ?_
      refine lv_goto (tgt := 132) hx hb dX5_fits_117 (by decide) ?_
      exact hRet j100_x4 (upd j100_v_storey ((5 * j100_x1) + 1).toNatClampNeg j100_x3) 132 ls H locs dX5_fits_132 hf hP hS
  have L_46 : ∀ (g46_x1 : Int32) (g46_x2 : Int32) (g46_x3 : Int32) (n : Nat) (j46_x4 : Int32) (j46_x5 : Int32) (j46_x6 : Int32) (j46_x7 : Int32) (j46_v_storey : (Nat → Int32)) (ls : Array Slot) (H : Heap) (locs : List Loc), mx_l5 (f_X5_fits_46 v_storeys v_sights v_sight v_soft v_now post g46_x1 g46_x2 g46_x3) n j46_x4 j46_x5 j46_x6 j46_x7 j46_v_storey → lv_has ls 8 [(0, .ref a_t), (1, .int g46_x1), (2, .int g46_x2), (3, .int g46_x3), (4, .int j46_x4), (5, .int j46_x5), (6, .int j46_x6), (7, .int j46_x7)] → va_P E.1 vwCl (w_X5_fits E a_t a_storey a_wind a_pair a_text a_read a_now a_image a_isKept a_row a_sight a_ways a_ends a_tried v_storeys v_jacks v_soft v_pairs v_bytes v_position v_tokenAt v_token v_digits v_number v_faultAt v_readMany v_readStoreys v_readPairs v_rows v_sights j46_v_storey v_sight v_now) H → va_D A (w_X5_fits E a_t a_storey a_wind a_pair a_text a_read a_now a_image a_isKept a_row a_sight a_ways a_ends a_tried v_storeys v_jacks v_soft v_pairs v_bytes v_position v_tokenAt v_token v_digits v_number v_faultAt v_readMany v_readStoreys v_readPairs v_rows v_sights j46_v_storey v_sight v_now) → va_S A s.heap H locs → W p l e rm_X5_fits s m args below meth c H locs 0 0 Q (F0 m 46 ls []) := by
    intro g46_x1 g46_x2 g46_x3 n_46
    induction n_46 with
    | zero =>
      intro j46_x4 j46_x5 j46_x6 j46_x7 j46_v_storey ls H locs hf hl hP hD hS
      exact False.elim hf
    | succ n_46 ih_46 =>
      have J_88 : ∀ (j88_x4 : Int32) (j88_x7 : Int32) (j88_k0 : Int32) (j88_v_storey : (Nat → Int32)) (ls : Array Slot) (H : Heap) (locs : List Loc), f_X5_fits_88 v_storeys v_sights v_sight v_soft v_now (mx_l5 (f_X5_fits_46 v_storeys v_sights v_sight v_soft v_now post g46_x1 g46_x2 g46_x3) n_46) post g46_x1 g46_x2 g46_x3 j88_x4 j88_x7 j88_k0 j88_v_storey → lv_has ls 8 [(0, .ref a_t), (1, .int g46_x1), (2, .int g46_x2), (3, .int g46_x3), (4, .int j88_x4), (7, .int j88_x7)] → va_P E.1 vwCl (w_X5_fits E a_t a_storey a_wind a_pair a_text a_read a_now a_image a_isKept a_row a_sight a_ways a_ends a_tried v_storeys v_jacks v_soft v_pairs v_bytes v_position v_tokenAt v_token v_digits v_number v_faultAt v_readMany v_readStoreys v_readPairs v_rows v_sights j88_v_storey v_sight v_now) H → va_D A (w_X5_fits E a_t a_storey a_wind a_pair a_text a_read a_now a_image a_isKept a_row a_sight a_ways a_ends a_tried v_storeys v_jacks v_soft v_pairs v_bytes v_position v_tokenAt v_token v_digits v_number v_faultAt v_readMany v_readStoreys v_readPairs v_rows v_sights j88_v_storey v_sight v_now) → va_S A s.heap H locs → W p l e rm_X5_fits s m args below meth c H locs 0 0 Q (F0 m 88 ls [.int j88_k0]) := by
        intro j88_x4 j88_x7 j88_k0 j88_v_storey ls H locs hf hl hP hD hS
        refine lv_istore (lv' := [(5, .int j88_k0), (0, .ref a_t), (1, .int g46_x1), (2, .int g46_x2), (3, .int g46_x3), (4, .int j88_x4), (7, .int j88_x7)]) hx hb dX5_fits_88 hl (by decide) rfl (fun ls hl => ?_)
        refine lv_iload hx hb dX5_fits_90 (lv_at hl 6 rfl) ?_
        refine lv_istore (lv' := [(6, .int j88_x7), (5, .int j88_k0), (0, .ref a_t), (1, .int g46_x1), (2, .int g46_x2), (3, .int g46_x3), (4, .int j88_x4), (7, .int j88_x7)]) hx hb dX5_fits_92 hl (by decide) rfl (fun ls hl => ?_)
        refine lv_iinc (v := j88_x7 + 1) (lv' := [(7, .int (j88_x7 + 1)), (6, .int j88_x7), (5, .int j88_k0), (0, .ref a_t), (1, .int g46_x1), (2, .int g46_x2), (3, .int g46_x3), (4, .int j88_x4)]) hx hb dX5_fits_94 hl (k := 7) rfl (by rw [kc_i_1]) (by decide) rfl (fun ls hl => ?_)
        refine lv_goto (tgt := 46) hx hb dX5_fits_97 (by decide) ?_
        exact ih_46 j88_x4 j88_k0 j88_x7 (j88_x7 + 1) j88_v_storey ls H locs hf (lv_sub hl [3, 4, 5, 6, 7, 2, 1, 0] rfl) hP hD hS
      intro j46_x4 j46_x5 j46_x6 j46_x7 j46_v_storey ls H locs hf hl hP hD hS
      replace hf : f_X5_fits_46 v_storeys v_sights v_sight v_soft v_now post g46_x1 g46_x2 g46_x3 (mx_l5 (f_X5_fits_46 v_storeys v_sights v_sight v_soft v_now post g46_x1 g46_x2 g46_x3) n_46) j46_x4 j46_x5 j46_x6 j46_x7 j46_v_storey := hf
      refine lv_iload hx hb dX5_fits_46 (lv_at hl 7 rfl) ?_
      refine lv_bipush hx hb dX5_fits_48 kc_b_100 ?_
      refine lv_icmp_ge (tgt := 100) hx hb dX5_fits_50 (by decide) (fun c50 => ?_) (fun c50 => ?_)
      · have hf := hf.1 c50
        exact J_100 g46_x1 g46_x2 g46_x3 j46_x4 j46_x5 j46_x6 j46_v_storey ls H locs hf (lv_sub hl [0, 1, 2, 3, 4, 5, 6] rfl) hP hD hS
      · have hf := hf.2 c50
        refine lv_aload_n hx hb dX5_fits_53 rfl (lv_at hl 0 rfl) ?_
        refine gf_X5_7 hB hP 0 rfl rfl dX5_fits_54 ?_
        refine lv_iconst hx hb dX5_fits_57 kc_i_5 ?_
        refine lv_iload_n hx hb dX5_fits_58 rfl (lv_at hl 1 rfl) ?_
        refine lv_imul hx hb dX5_fits_59 ?_
        refine lv_iconst hx hb dX5_fits_60 kc_i_1 ?_
        refine lv_iadd hx hb dX5_fits_61 ?_
        refine lv_iload hx hb dX5_fits_62 (lv_at hl 7 rfl) ?_
        obtain ⟨h_in, hf⟩ := hf
        refine va_iast hx hb hB.K hP hD hS 1 0 rfl rfl h_in dX5_fits_64 (fun H locs hP hD hS => ?_)
        have hP : va_P E.1 vwCl (w_X5_fits E a_t a_storey a_wind a_pair a_text a_read a_now a_image a_isKept a_row a_sight a_ways a_ends a_tried v_storeys v_jacks v_soft v_pairs v_bytes v_position v_tokenAt v_token v_digits v_number v_faultAt v_readMany v_readStoreys v_readPairs v_rows v_sights (upd j46_v_storey ((5 * g46_x1) + 1).toNatClampNeg j46_x7) v_sight v_now) H := hP
        have hD : va_D A (w_X5_fits E a_t a_storey a_wind a_pair a_text a_read a_now a_image a_isKept a_row a_sight a_ways a_ends a_tried v_storeys v_jacks v_soft v_pairs v_bytes v_position v_tokenAt v_token v_digits v_number v_faultAt v_readMany v_readStoreys v_readPairs v_rows v_sights (upd j46_v_storey ((5 * g46_x1) + 1).toNatClampNeg j46_x7) v_sight v_now) := hD
        refine lv_aload_n hx hb dX5_fits_65 rfl (lv_at hl 0 rfl) ?_
        refine mx_gi (mx_runV (As := []) (rest := []) hB (c_X5_areSo l E a_t a_storey a_wind a_pair a_text a_read a_now a_image a_isKept a_row a_sight a_ways a_ends a_tried v_storeys v_jacks v_soft v_pairs v_bytes v_position v_tokenAt v_token v_digits v_number v_faultAt v_readMany v_readStoreys v_readPairs v_rows v_sights v_sight v_now (upd j46_v_storey ((5 * g46_x1) + 1).toNatClampNeg j46_x7) _ hf) sB_X5_areSo sV_X5_areSo wml_X5_221 rfl (mx_ppV hB hP [0, 2, 3, 1] rfl 5 rfl rfl rfl) hl.1 rfl (Nat.le_of_ble_eq_true rfl) dX5_fits_66 ⟨Nat.zero_le _, Nat.zero_le _⟩) (fun r1 hf => ?_)
        refine lv_if_eq (tgt := 94) hx hb dX5_fits_69 (by decide) (fun c69 => ?_) (fun c69 => ?_)
        · have hf := hf.1 c69
          refine lv_iinc (v := j46_x7 + 1) (lv' := [(7, .int (j46_x7 + 1)), (0, .ref a_t), (1, .int g46_x1), (2, .int g46_x2), (3, .int g46_x3), (4, .int j46_x4), (5, .int j46_x5), (6, .int j46_x6)]) hx hb dX5_fits_94 hl (k := 7) rfl (by rw [kc_i_1]) (by decide) rfl (fun ls hl => ?_)
          refine lv_goto (tgt := 46) hx hb dX5_fits_97 (by decide) ?_
          exact ih_46 j46_x4 j46_x5 j46_x6 (j46_x7 + 1) (upd j46_v_storey ((5 * g46_x1) + 1).toNatClampNeg j46_x7) ls H locs hf (lv_sub hl [1, 2, 3, 4, 5, 6, 7, 0] rfl) hP hD hS
        · have hf := hf.2 c69
          refine lv_iinc (v := j46_x4 + 1) (lv' := [(4, .int (j46_x4 + 1)), (0, .ref a_t), (1, .int g46_x1), (2, .int g46_x2), (3, .int g46_x3), (5, .int j46_x5), (6, .int j46_x6), (7, .int j46_x7)]) hx hb dX5_fits_72 hl (k := 4) rfl (by rw [kc_i_1]) (by decide) rfl (fun ls hl => ?_)
          refine lv_iload hx hb dX5_fits_75 (lv_at hl 5 rfl) ?_
          refine lv_iconst hx hb dX5_fits_77 kc_i_m1 ?_
          refine lv_icmp_ne (tgt := 86) hx hb dX5_fits_78 (by decide) (fun c78 => ?_) (fun c78 => ?_)
          · have hf := hf.1 c78
            refine lv_iload hx hb dX5_fits_86 (lv_at hl 5 rfl) ?_
            exact J_88 (j46_x4 + 1) j46_x7 j46_x5 (upd j46_v_storey ((5 * g46_x1) + 1).toNatClampNeg j46_x7) ls H locs hf (lv_sub hl [1, 2, 3, 4, 0, 7] rfl) hP hD hS
          · have hf := hf.2 c78
            refine lv_iload hx hb dX5_fits_81 (lv_at hl 7 rfl) ?_
            refine lv_goto (tgt := 88) hx hb dX5_fits_83 (by decide) ?_
            exact J_88 (j46_x4 + 1) j46_x7 j46_x7 (upd j46_v_storey ((5 * g46_x1) + 1).toNatClampNeg j46_x7) ls H locs hf (lv_sub hl [1, 2, 3, 4, 0, 7] rfl) hP hD hS
  obtain ⟨H, locs, eH, eL⟩ : ∃ (H : Heap) (locs : List Loc), H = s.heap ∧ locs = [] := ⟨_, _, rfl, rfl⟩
  rw [← eH] at hP
  have hS : va_S A s.heap H locs := by rw [eH, eL]; exact hS
  show W p l e rm_X5_fits s m args below meth c s.heap [] 0 0 Q (F0 m 0 ls [])
  rw [← eH, ← eL]
  refine lv_aload_n hx hb dX5_fits_0 rfl (lv_at hl 0 rfl) ?_
  refine lv_iload_n hx hb dX5_fits_1 rfl (lv_at hl 1 rfl) ?_
  refine mx_gi (mx_runV (As := [.int x1]) (rest := []) hB (c_X5_isStorey l E a_t a_storey a_wind a_pair a_text a_read a_now a_image a_isKept a_row a_sight a_ways a_ends a_tried v_storeys v_jacks v_soft v_pairs v_bytes v_position v_tokenAt v_token v_digits v_number v_faultAt v_readMany v_readStoreys v_readPairs v_rows v_sights x1 _ hf) sB_X5_isStorey sV_X5_isStorey wml_X5_172 rfl (mx_ppV hB hP [0] rfl 5 rfl rfl rfl) hl.1 rfl (Nat.le_of_ble_eq_true rfl) dX5_fits_2 ⟨Nat.zero_le _, Nat.zero_le _⟩) (fun r1 hf => ?_)
  refine lv_if_ne (tgt := 11) hx hb dX5_fits_5 (by decide) (fun c5 => ?_) (fun c5 => ?_)
  · have hf := hf.1 c5
    refine lv_iload_n hx hb dX5_fits_11 rfl (lv_at hl 2 rfl) ?_
    refine lv_iconst hx hb dX5_fits_12 kc_i_0 ?_
    refine lv_iconst hx hb dX5_fits_13 kc_i_2 ?_
    refine mx_gi (mx_runS (As := [.int x2, .int 0, .int 2]) (rest := []) hB (c_X5_in1 l E x2 0 2 _ hf) sB_X5_in1 wst_X5_in1 wml_X5_60 rfl (mx_pp hB hP [] rfl) hl.1 rfl (Nat.le_of_ble_eq_true rfl) dX5_fits_14 ⟨Nat.zero_le _, Nat.zero_le _⟩) (fun r2 hf => ?_)
    refine lv_if_ne (tgt := 23) hx hb dX5_fits_17 (by decide) (fun c17 => ?_) (fun c17 => ?_)
    · have hf := hf.1 c17
      refine lv_aload_n hx hb dX5_fits_23 rfl (lv_at hl 0 rfl) ?_
      refine gf_X5_7 hB hP 0 rfl rfl dX5_fits_24 ?_
      refine lv_iconst hx hb dX5_fits_27 kc_i_5 ?_
      refine lv_iload_n hx hb dX5_fits_28 rfl (lv_at hl 1 rfl) ?_
      refine lv_imul hx hb dX5_fits_29 ?_
      refine lv_iconst hx hb dX5_fits_30 kc_i_1 ?_
      refine lv_iadd hx hb dX5_fits_31 ?_
      obtain ⟨h_in, hf⟩ := hf
      refine va_iald hx hb hB.K hP 1 0 rfl rfl h_in dX5_fits_32 ?_
      refine lv_istore_n (lv' := [(3, .int (v_storey ((5 * x1) + 1).toNatClampNeg)), (0, .ref a_t), (1, .int x1), (2, .int x2)]) hx hb dX5_fits_33 rfl hl (by decide) rfl (fun ls hl => ?_)
      refine lv_iconst hx hb dX5_fits_34 kc_i_0 ?_
      refine lv_istore (lv' := [(4, .int 0), (3, .int (v_storey ((5 * x1) + 1).toNatClampNeg)), (0, .ref a_t), (1, .int x1), (2, .int x2)]) hx hb dX5_fits_35 hl (by decide) rfl (fun ls hl => ?_)
      refine lv_iconst hx hb dX5_fits_37 kc_i_m1 ?_
      refine lv_istore (lv' := [(5, .int (-1)), (4, .int 0), (3, .int (v_storey ((5 * x1) + 1).toNatClampNeg)), (0, .ref a_t), (1, .int x1), (2, .int x2)]) hx hb dX5_fits_38 hl (by decide) rfl (fun ls hl => ?_)
      refine lv_iconst hx hb dX5_fits_40 kc_i_m1 ?_
      refine lv_istore (lv' := [(6, .int (-1)), (5, .int (-1)), (4, .int 0), (3, .int (v_storey ((5 * x1) + 1).toNatClampNeg)), (0, .ref a_t), (1, .int x1), (2, .int x2)]) hx hb dX5_fits_41 hl (by decide) rfl (fun ls hl => ?_)
      refine lv_iconst hx hb dX5_fits_43 kc_i_1 ?_
      refine lv_istore (lv' := [(7, .int 1), (6, .int (-1)), (5, .int (-1)), (4, .int 0), (3, .int (v_storey ((5 * x1) + 1).toNatClampNeg)), (0, .ref a_t), (1, .int x1), (2, .int x2)]) hx hb dX5_fits_44 hl (by decide) rfl (fun ls hl => ?_)
      obtain ⟨n9, hf⟩ := hf
      exact L_46 x1 x2 (v_storey ((5 * x1) + 1).toNatClampNeg) n9 0 (-1) (-1) 1 v_storey ls H locs hf (lv_sub hl [5, 6, 7, 4, 3, 2, 1, 0] rfl) hP hD hS
    · have hf := hf.2 c17
      refine lv_bipush hx hb dX5_fits_20 kc_b_m3 ?_
      exact hRet (-3) v_storey 22 ls H locs dX5_fits_22 hf hP hS
  · have hf := hf.2 c5
    refine lv_bipush hx hb dX5_fits_8 kc_b_m2 ?_
    exact hRet (-2) v_storey 10 ls H locs dX5_fits_10 hf hP hS
theorem c_X5_fits (l : Launch) (E : mx_E) (a_t : Nat) (a_storey : Nat) (a_wind : Nat) (a_pair : Nat) (a_text : Nat) (a_read : Nat) (a_now : Nat) (a_image : Nat) (a_isKept : Nat) (a_row : Nat) (a_sight : Nat) (a_ways : Nat) (a_ends : Nat) (a_tried : Nat) (v_storeys : Int32) (v_jacks : Int32) (v_soft : Int32) (v_pairs : Int32) (v_bytes : Int32) (v_position : Int32) (v_tokenAt : Int32) (v_token : Int64) (v_digits : Int32) (v_number : Int32) (v_faultAt : Int32) (v_readMany : Int32) (v_readStoreys : Int32) (v_readPairs : Int32) (v_rows : Int32) (v_sights : Int32) (v_storey : (Nat → Int32)) (v_sight : (Nat → Int32)) (v_now : (Nat → Int32)) (sz : Nat) (x1 : Int32) (x2 : Int32) (post : Int32 → (Nat → Int32) → Prop) (hf : f_X5_fits v_storeys v_sights v_sight v_soft v_now v_storey x1 x2 post) : Met l yX5_fits (Cond.code yX5_fits cX5_fits 8 (some .int) :: mx_WS) rm_X5_fits (va_Pc [.ref a_t, .int x1, .int x2] (mx_Pw E (w_X5_fits E a_t a_storey a_wind a_pair a_text a_read a_now a_image a_isKept a_row a_sight a_ways a_ends a_tried v_storeys v_jacks v_soft v_pairs v_bytes v_position v_tokenAt v_token v_digits v_number v_faultAt v_readMany v_readStoreys v_readPairs v_rows v_sights v_storey v_sight v_now) sz)) (va_Qi (fun (v : Int32) (u : (Nat → Int32)) => post v u) (fun u t => va_P E.1 vwCl (w_X5_fits E a_t a_storey a_wind a_pair a_text a_read a_now a_image a_isKept a_row a_sight a_ways a_ends a_tried v_storeys v_jacks v_soft v_pairs v_bytes v_position v_tokenAt v_token v_digits v_number v_faultAt v_readMany v_readStoreys v_readPairs v_rows v_sights u v_sight v_now) t.heap) (va_A (w_X5_fits E a_t a_storey a_wind a_pair a_text a_read a_now a_image a_isKept a_row a_sight a_ways a_ends a_tried v_storeys v_jacks v_soft v_pairs v_bytes v_position v_tokenAt v_token v_digits v_number v_faultAt v_readMany v_readStoreys v_readPairs v_rows v_sights v_storey v_sight v_now) sz)) 0 0 (va_A (w_X5_fits E a_t a_storey a_wind a_pair a_text a_read a_now a_image a_isKept a_row a_sight a_ways a_ends a_tried v_storeys v_jacks v_soft v_pairs v_bytes v_position v_tokenAt v_token v_digits v_number v_faultAt v_readMany v_readStoreys v_readPairs v_rows v_sights v_storey v_sight v_now) sz) :=
  mx_metWi (by decide) rfl rfl (fun hB hP hD hA hRet ls hl => b_X5_fits E a_t a_storey a_wind a_pair a_text a_read a_now a_image a_isKept a_row a_sight a_ways a_ends a_tried v_storeys v_jacks v_soft v_pairs v_bytes v_position v_tokenAt v_token v_digits v_number v_faultAt v_readMany v_readStoreys v_readPairs v_rows v_sights v_storey v_sight v_now x1 x2 post hB hP hD hA hRet hf ls hl)
def rm_X5_count : Room := { frames := 2, cells := 0, slots := 0, locals := 44 }
set_option maxHeartbeats 4000000 in
set_option maxRecDepth 100000 in
theorem b_X5_count {p : Program} {l : Launch} {e : Env} {s : State} {m : MethodId} {args : Array Value} {below : List Frame} {meth : Method} {c : Code} {Q : State → Prop} (E : mx_E) (a_t : Nat) (a_storey : Nat) (a_wind : Nat) (a_pair : Nat) (a_text : Nat) (a_read : Nat) (a_now : Nat) (a_image : Nat) (a_isKept : Nat) (a_row : Nat) (a_sight : Nat) (a_ways : Nat) (a_ends : Nat) (a_tried : Nat) (v_storeys : Int32) (v_jacks : Int32) (v_soft : Int32) (v_pairs : Int32) (v_bytes : Int32) (v_position : Int32) (v_tokenAt : Int32) (v_token : Int64) (v_digits : Int32) (v_number : Int32) (v_faultAt : Int32) (v_readMany : Int32) (v_readStoreys : Int32) (v_readPairs : Int32) (v_rows : Int32) (v_sights : Int32) (v_now : (Nat → Int32)) (v_wind : (Nat → Int32)) (v_storey : (Nat → Int32)) (x1 : Int32) (post : Int32 → Prop) (hB : mx_B p m c cX5_count 2 s args RX5 E) (hP : va_P E.1 vwCl (w_X5_count E a_t a_storey a_wind a_pair a_text a_read a_now a_image a_isKept a_row a_sight a_ways a_ends a_tried v_storeys v_jacks v_soft v_pairs v_bytes v_position v_tokenAt v_token v_digits v_number v_faultAt v_readMany v_readStoreys v_readPairs v_rows v_sights v_now v_wind v_storey) s.heap) (hRet : ∀ (v : Int32) (pc : Nat) (ls : Array Slot), decode cX5_count pc = .ok (.ireturn, 1) → post v → W p l e rm_X5_count s m args below meth c s.heap [] 0 0 Q (F0 m pc ls [.int v])) (hf : f_X5_count v_bytes v_sights v_rows v_now v_wind v_storeys v_storey v_pairs v_soft v_jacks x1 post) (ls : Array Slot) (hl : lv_has ls 2 [(0, .ref a_t), (1, .int x1)]) : W p l e rm_X5_count s m args below meth c s.heap [] 0 0 Q (F0 m 0 ls []) := by
  have hx := hB.x
  have hb := hB.b
  refine lv_iload_n hx hb dX5_count_0 rfl (lv_at hl 1 rfl) ?_
  by_cases c1_0 : x1 = 0
  · have hf := hf.1 c1_0
    refine lv_tableIn (tgt := 64) hx hb dX5_count_1 (by rw [c1_0]; decide) (by rw [c1_0]; decide) (by rw [c1_0]; rfl) (by decide) ?_
    refine lv_aload_n hx hb dX5_count_64 rfl (lv_at hl 0 rfl) ?_
    refine gf_X5_57 hB hP 0 rfl rfl dX5_count_65 ?_
    exact hRet v_storeys 68 ls dX5_count_68 hf
  · have hf := hf.2 c1_0
    by_cases c1_1 : x1 = 1
    · have hf := hf.1 c1_1
      refine lv_tableIn (tgt := 69) hx hb dX5_count_1 (by rw [c1_1]; decide) (by rw [c1_1]; decide) (by rw [c1_1]; rfl) (by decide) ?_
      refine lv_aload_n hx hb dX5_count_69 rfl (lv_at hl 0 rfl) ?_
      refine gf_X5_13 hB hP 0 rfl rfl dX5_count_70 ?_
      exact hRet v_jacks 73 ls dX5_count_73 hf
    · have hf := hf.2 c1_1
      by_cases c1_2 : x1 = 2
      · have hf := hf.1 c1_2
        refine lv_tableIn (tgt := 74) hx hb dX5_count_1 (by rw [c1_2]; decide) (by rw [c1_2]; decide) (by rw [c1_2]; rfl) (by decide) ?_
        refine lv_aload_n hx hb dX5_count_74 rfl (lv_at hl 0 rfl) ?_
        refine gf_X5_17 hB hP 0 rfl rfl dX5_count_75 ?_
        exact hRet v_soft 78 ls dX5_count_78 hf
      · have hf := hf.2 c1_2
        by_cases c1_3 : x1 = 3
        · have hf := hf.1 c1_3
          refine lv_tableIn (tgt := 79) hx hb dX5_count_1 (by rw [c1_3]; decide) (by rw [c1_3]; decide) (by rw [c1_3]; rfl) (by decide) ?_
          refine lv_aload_n hx hb dX5_count_79 rfl (lv_at hl 0 rfl) ?_
          refine gf_X5_149 hB hP 0 rfl rfl dX5_count_80 ?_
          exact hRet v_pairs 83 ls dX5_count_83 hf
        · have hf := hf.2 c1_3
          by_cases c1_4 : x1 = 4
          · have hf := hf.1 c1_4
            refine lv_tableIn (tgt := 84) hx hb dX5_count_1 (by rw [c1_4]; decide) (by rw [c1_4]; decide) (by rw [c1_4]; rfl) (by decide) ?_
            refine lv_aload_n hx hb dX5_count_84 rfl (lv_at hl 0 rfl) ?_
            refine gf_X5_32 hB hP 0 rfl rfl dX5_count_85 ?_
            refine lv_iconst hx hb dX5_count_88 kc_i_0 ?_
            obtain ⟨h_in, hf⟩ := hf
            refine va_iald hx hb hB.K hP 1 0 rfl rfl h_in dX5_count_89 ?_
            exact hRet (v_now (0 : Int32).toNatClampNeg) 90 ls dX5_count_90 hf
          · have hf := hf.2 c1_4
            by_cases c1_5 : x1 = 5
            · have hf := hf.1 c1_5
              refine lv_tableIn (tgt := 91) hx hb dX5_count_1 (by rw [c1_5]; decide) (by rw [c1_5]; decide) (by rw [c1_5]; rfl) (by decide) ?_
              refine lv_aload_n hx hb dX5_count_91 rfl (lv_at hl 0 rfl) ?_
              refine gf_X5_32 hB hP 0 rfl rfl dX5_count_92 ?_
              refine lv_iconst hx hb dX5_count_95 kc_i_1 ?_
              obtain ⟨h_in, hf⟩ := hf
              refine va_iald hx hb hB.K hP 1 0 rfl rfl h_in dX5_count_96 ?_
              exact hRet (v_now (1 : Int32).toNatClampNeg) 97 ls dX5_count_97 hf
            · have hf := hf.2 c1_5
              by_cases c1_6 : x1 = 6
              · have hf := hf.1 c1_6
                refine lv_tableIn (tgt := 98) hx hb dX5_count_1 (by rw [c1_6]; decide) (by rw [c1_6]; decide) (by rw [c1_6]; rfl) (by decide) ?_
                refine lv_aload_n hx hb dX5_count_98 rfl (lv_at hl 0 rfl) ?_
                refine lv_aload_n hx hb dX5_count_99 rfl (lv_at hl 0 rfl) ?_
                refine mx_gi (mx_runV (As := []) (rest := [.ref a_t]) hB (c_X5_upSet l E a_t a_storey a_wind a_pair a_text a_read a_now a_image a_isKept a_row a_sight a_ways a_ends a_tried v_storeys v_jacks v_soft v_pairs v_bytes v_position v_tokenAt v_token v_digits v_number v_faultAt v_readMany v_readStoreys v_readPairs v_rows v_sights v_now _ hf) sB_X5_upSet sV_X5_upSet wml_X5_192 rfl (mx_ppV hB hP [0, 1] rfl 5 rfl rfl rfl) hl.1 rfl (Nat.le_of_ble_eq_true rfl) dX5_count_100 ⟨Nat.zero_le _, Nat.zero_le _⟩) (fun r1 hf => ?_)
                refine mx_gi (mx_runV (As := [.int r1]) (rest := []) hB (c_X5_highOf l E a_t a_storey a_wind a_pair a_text a_read a_now a_image a_isKept a_row a_sight a_ways a_ends a_tried v_storeys v_jacks v_soft v_pairs v_bytes v_position v_tokenAt v_token v_digits v_number v_faultAt v_readMany v_readStoreys v_readPairs v_rows v_sights v_storey r1 _ hf) sB_X5_highOf sV_X5_highOf wml_X5_209 rfl (mx_ppV hB hP [0, 3] rfl 5 rfl rfl rfl) hl.1 rfl (Nat.le_of_ble_eq_true rfl) dX5_count_103 ⟨Nat.zero_le _, Nat.zero_le _⟩) (fun r2 hf => ?_)
                exact hRet r2 106 ls dX5_count_106 hf
              · have hf := hf.2 c1_6
                by_cases c1_7 : x1 = 7
                · have hf := hf.1 c1_7
                  refine lv_tableIn (tgt := 107) hx hb dX5_count_1 (by rw [c1_7]; decide) (by rw [c1_7]; decide) (by rw [c1_7]; rfl) (by decide) ?_
                  refine lv_aload_n hx hb dX5_count_107 rfl (lv_at hl 0 rfl) ?_
                  refine lv_aload_n hx hb dX5_count_108 rfl (lv_at hl 0 rfl) ?_
                  refine mx_gi (mx_runV (As := []) (rest := [.ref a_t]) hB (c_X5_upSet l E a_t a_storey a_wind a_pair a_text a_read a_now a_image a_isKept a_row a_sight a_ways a_ends a_tried v_storeys v_jacks v_soft v_pairs v_bytes v_position v_tokenAt v_token v_digits v_number v_faultAt v_readMany v_readStoreys v_readPairs v_rows v_sights v_now _ hf) sB_X5_upSet sV_X5_upSet wml_X5_192 rfl (mx_ppV hB hP [0, 1] rfl 5 rfl rfl rfl) hl.1 rfl (Nat.le_of_ble_eq_true rfl) dX5_count_109 ⟨Nat.zero_le _, Nat.zero_le _⟩) (fun r3 hf => ?_)
                  refine mx_gi (mx_runV (As := [.int r3]) (rest := []) hB (c_X5_loadOfAll l E a_t a_storey a_wind a_pair a_text a_read a_now a_image a_isKept a_row a_sight a_ways a_ends a_tried v_storeys v_jacks v_soft v_pairs v_bytes v_position v_tokenAt v_token v_digits v_number v_faultAt v_readMany v_readStoreys v_readPairs v_rows v_sights v_storey r3 _ hf) sB_X5_loadOfAll sV_X5_loadOfAll wml_X5_186 rfl (mx_ppV hB hP [0, 3] rfl 5 rfl rfl rfl) hl.1 rfl (Nat.le_of_ble_eq_true rfl) dX5_count_112 ⟨Nat.zero_le _, Nat.zero_le _⟩) (fun r4 hf => ?_)
                  exact hRet r4 115 ls dX5_count_115 hf
                · have hf := hf.2 c1_7
                  by_cases c1_8 : x1 = 8
                  · have hf := hf.1 c1_8
                    refine lv_tableIn (tgt := 116) hx hb dX5_count_1 (by rw [c1_8]; decide) (by rw [c1_8]; decide) (by rw [c1_8]; rfl) (by decide) ?_
                    refine lv_aload_n hx hb dX5_count_116 rfl (lv_at hl 0 rfl) ?_
                    refine lv_aload_n hx hb dX5_count_117 rfl (lv_at hl 0 rfl) ?_
                    refine gf_X5_32 hB hP 0 rfl rfl dX5_count_118 ?_
                    refine lv_iconst hx hb dX5_count_121 kc_i_1 ?_
                    obtain ⟨h_in, hf⟩ := hf
                    refine va_iald hx hb hB.K hP 1 0 rfl rfl h_in dX5_count_122 ?_
                    refine mx_gi (mx_runV (As := [.int (v_now (1 : Int32).toNatClampNeg)]) (rest := []) hB (c_X5_windOf l E a_t a_storey a_wind a_pair a_text a_read a_now a_image a_isKept a_row a_sight a_ways a_ends a_tried v_storeys v_jacks v_soft v_pairs v_bytes v_position v_tokenAt v_token v_digits v_number v_faultAt v_readMany v_readStoreys v_readPairs v_rows v_sights v_wind (v_now (1 : Int32).toNatClampNeg) _ hf) sB_X5_windOf sV_X5_windOf wml_X5_200 rfl (mx_ppV hB hP [0, 2] rfl 5 rfl rfl rfl) hl.1 rfl (Nat.le_of_ble_eq_true rfl) dX5_count_123 ⟨Nat.zero_le _, Nat.zero_le _⟩) (fun r5 hf => ?_)
                    exact hRet r5 126 ls dX5_count_126 hf
                  · have hf := hf.2 c1_8
                    by_cases c1_9 : x1 = 9
                    · have hf := hf.1 c1_9
                      refine lv_tableIn (tgt := 127) hx hb dX5_count_1 (by rw [c1_9]; decide) (by rw [c1_9]; decide) (by rw [c1_9]; rfl) (by decide) ?_
                      refine lv_aload_n hx hb dX5_count_127 rfl (lv_at hl 0 rfl) ?_
                      refine gf_X5_166 hB hP 0 rfl rfl dX5_count_128 ?_
                      exact hRet v_rows 131 ls dX5_count_131 hf
                    · have hf := hf.2 c1_9
                      by_cases c1_10 : x1 = 10
                      · have hf := hf.1 c1_10
                        refine lv_tableIn (tgt := 132) hx hb dX5_count_1 (by rw [c1_10]; decide) (by rw [c1_10]; decide) (by rw [c1_10]; rfl) (by decide) ?_
                        refine lv_aload_n hx hb dX5_count_132 rfl (lv_at hl 0 rfl) ?_
                        refine gf_X5_169 hB hP 0 rfl rfl dX5_count_133 ?_
                        exact hRet v_sights 136 ls dX5_count_136 hf
                      · have hf := hf.2 c1_10
                        by_cases c1_11 : x1 = 11
                        · have hf := hf.1 c1_11
                          refine lv_tableIn (tgt := 137) hx hb dX5_count_1 (by rw [c1_11]; decide) (by rw [c1_11]; decide) (by rw [c1_11]; rfl) (by decide) ?_
                          refine lv_aload_n hx hb dX5_count_137 rfl (lv_at hl 0 rfl) ?_
                          refine gf_X5_64 hB hP 0 rfl rfl dX5_count_138 ?_
                          exact hRet v_bytes 141 ls dX5_count_141 hf
                        · have hf := hf.2 c1_11
                          refine lv_tableOut (tgt := 142) hx hb dX5_count_1 (mx_out 0 11 [0, 1, 2, 3, 4, 5, 6, 7, 8, 9, 10, 11] (List.forall_mem_cons.mpr ⟨c1_0, (List.forall_mem_cons.mpr ⟨c1_1, (List.forall_mem_cons.mpr ⟨c1_2, (List.forall_mem_cons.mpr ⟨c1_3, (List.forall_mem_cons.mpr ⟨c1_4, (List.forall_mem_cons.mpr ⟨c1_5, (List.forall_mem_cons.mpr ⟨c1_6, (List.forall_mem_cons.mpr ⟨c1_7, (List.forall_mem_cons.mpr ⟨c1_8, (List.forall_mem_cons.mpr ⟨c1_9, (List.forall_mem_cons.mpr ⟨c1_10, (List.forall_mem_cons.mpr ⟨c1_11, (fun _ h => absurd h List.not_mem_nil)⟩)⟩)⟩)⟩)⟩)⟩)⟩)⟩)⟩)⟩)⟩)⟩) (by decide)) (by decide) ?_
                          refine lv_bipush hx hb dX5_count_142 kc_b_m3 ?_
                          exact hRet (-3) 144 ls dX5_count_144 hf
theorem c_X5_count (l : Launch) (E : mx_E) (a_t : Nat) (a_storey : Nat) (a_wind : Nat) (a_pair : Nat) (a_text : Nat) (a_read : Nat) (a_now : Nat) (a_image : Nat) (a_isKept : Nat) (a_row : Nat) (a_sight : Nat) (a_ways : Nat) (a_ends : Nat) (a_tried : Nat) (v_storeys : Int32) (v_jacks : Int32) (v_soft : Int32) (v_pairs : Int32) (v_bytes : Int32) (v_position : Int32) (v_tokenAt : Int32) (v_token : Int64) (v_digits : Int32) (v_number : Int32) (v_faultAt : Int32) (v_readMany : Int32) (v_readStoreys : Int32) (v_readPairs : Int32) (v_rows : Int32) (v_sights : Int32) (v_now : (Nat → Int32)) (v_wind : (Nat → Int32)) (v_storey : (Nat → Int32)) (x1 : Int32) (post : Int32 → Prop) (hf : f_X5_count v_bytes v_sights v_rows v_now v_wind v_storeys v_storey v_pairs v_soft v_jacks x1 post) : Met l yX5_count (Cond.code yX5_count cX5_count 2 (some .int) :: mx_WS) rm_X5_count (va_Pc [.ref a_t, .int x1] (mx_Pp E (w_X5_count E a_t a_storey a_wind a_pair a_text a_read a_now a_image a_isKept a_row a_sight a_ways a_ends a_tried v_storeys v_jacks v_soft v_pairs v_bytes v_position v_tokenAt v_token v_digits v_number v_faultAt v_readMany v_readStoreys v_readPairs v_rows v_sights v_now v_wind v_storey))) (vp_Si post) 0 0 (fun _ => False) :=
  mx_metPi (by decide) rfl rfl (fun hB hP hRet ls hl => b_X5_count E a_t a_storey a_wind a_pair a_text a_read a_now a_image a_isKept a_row a_sight a_ways a_ends a_tried v_storeys v_jacks v_soft v_pairs v_bytes v_position v_tokenAt v_token v_digits v_number v_faultAt v_readMany v_readStoreys v_readPairs v_rows v_sights v_now v_wind v_storey x1 post hB hP hRet hf ls hl)
