def rm_X5_isLine : Room := { frames := 5, cells := 0, slots := 0, locals := 107 }
set_option maxHeartbeats 4000000 in
set_option maxRecDepth 100000 in
theorem b_X5_isLine {p : Program} {l : Launch} {e : Env} {s : State} {m : MethodId} {args : Array Value} {below : List Frame} {meth : Method} {c : Code} {Q : State → Prop} {A : Nat → Prop} (E : mx_E) (a_t : Nat) (a_storey : Nat) (a_wind : Nat) (a_pair : Nat) (a_text : Nat) (a_read : Nat) (a_now : Nat) (a_image : Nat) (a_isKept : Nat) (a_row : Nat) (a_sight : Nat) (a_ways : Nat) (a_ends : Nat) (a_tried : Nat) (v_storeys : Int32) (v_jacks : Int32) (v_soft : Int32) (v_pairs : Int32) (v_bytes : Int32) (v_position : Int32) (v_tokenAt : Int32) (v_token : Int64) (v_digits : Int32) (v_number : Int32) (v_faultAt : Int32) (v_readMany : Int32) (v_readStoreys : Int32) (v_readPairs : Int32) (v_rows : Int32) (v_sights : Int32) (v_text : (Nat → Int32)) (v_read : (Nat → Int32)) (x1 : Int32) (post : Int32 → Int32 → Int32 → Int32 → Int64 → Int32 → (Nat → Int32) → Int32 → Int32 → Int32 → Prop) (hB : mx_B p m c cX5_isLine 4 s args RX5 E) (hP : va_P E.1 vwCl (w_X5_isLine E a_t a_storey a_wind a_pair a_text a_read a_now a_image a_isKept a_row a_sight a_ways a_ends a_tried v_storeys v_jacks v_soft v_pairs v_bytes v_position v_tokenAt v_token v_digits v_number v_faultAt v_readMany v_readStoreys v_readPairs v_rows v_sights v_text v_read) s.heap) (hD : va_D A (w_X5_isLine E a_t a_storey a_wind a_pair a_text a_read a_now a_image a_isKept a_row a_sight a_ways a_ends a_tried v_storeys v_jacks v_soft v_pairs v_bytes v_position v_tokenAt v_token v_digits v_number v_faultAt v_readMany v_readStoreys v_readPairs v_rows v_sights v_text v_read)) (hA : ∀ q : Nat, s.heap.size ≤ q → A q) (hRet : ∀ (v : Int32) (u : Int32 × Int32 × Int32 × Int64 × Int32 × (Nat → Int32) × Int32 × Int32 × Int32) (pc : Nat) (ls : Array Slot) (H : Heap) (locs : List Loc), decode cX5_isLine pc = .ok (.ireturn, 1) → (v = 0 ∨ v = 1) → post v u.1 u.2.1 u.2.2.1 u.2.2.2.1 u.2.2.2.2.1 u.2.2.2.2.2.1 u.2.2.2.2.2.2.1 u.2.2.2.2.2.2.2.1 u.2.2.2.2.2.2.2.2 → va_P E.1 vwCl (w_X5_isLine E a_t a_storey a_wind a_pair a_text a_read a_now a_image a_isKept a_row a_sight a_ways a_ends a_tried v_storeys v_jacks v_soft v_pairs v_bytes u.2.2.2.2.1 u.1 u.2.2.2.1 u.2.1 u.2.2.1 u.2.2.2.2.2.2.1 v_readMany u.2.2.2.2.2.2.2.2 u.2.2.2.2.2.2.2.1 v_rows v_sights v_text u.2.2.2.2.2.1) H → va_S A s.heap H locs → W p l e rm_X5_isLine s m args below meth c H locs 0 0 Q (F0 m pc ls [.int v])) (hf : f_X5_isLine v_bytes v_text v_tokenAt v_digits v_number v_token v_position v_read v_faultAt v_readPairs v_readStoreys x1 post) (ls : Array Slot) (hl : lv_has ls 4 [(0, .ref a_t), (1, .int x1)]) : W p l e rm_X5_isLine s m args below meth c s.heap [] 0 0 Q (F0 m 0 ls []) := by
  have hx := hB.x
  have hb := hB.b
  have hS : va_S A s.heap s.heap [] := va_S.rf
  have J_177 : ∀ (j177_x1 : Int32) (j177_k1 : Int32) (j177_k2 : Int32) (j177_v_tokenAt : Int32) (j177_v_digits : Int32) (j177_v_number : Int32) (j177_v_token : Int64) (j177_v_position : Int32) (j177_v_read : (Nat → Int32)) (j177_v_faultAt : Int32) (j177_v_readPairs : Int32) (j177_v_readStoreys : Int32) (ls : Array Slot) (H : Heap) (locs : List Loc), f_X5_isLine_177 v_bytes v_text post j177_x1 j177_k1 j177_k2 j177_v_tokenAt j177_v_digits j177_v_number j177_v_token j177_v_position j177_v_read j177_v_faultAt j177_v_readPairs j177_v_readStoreys → lv_has ls 4 [(0, .ref a_t), (1, .int j177_x1)] → va_P E.1 vwCl (w_X5_isLine E a_t a_storey a_wind a_pair a_text a_read a_now a_image a_isKept a_row a_sight a_ways a_ends a_tried v_storeys v_jacks v_soft v_pairs v_bytes j177_v_position j177_v_tokenAt j177_v_token j177_v_digits j177_v_number j177_v_faultAt v_readMany j177_v_readStoreys j177_v_readPairs v_rows v_sights v_text j177_v_read) H → va_D A (w_X5_isLine E a_t a_storey a_wind a_pair a_text a_read a_now a_image a_isKept a_row a_sight a_ways a_ends a_tried v_storeys v_jacks v_soft v_pairs v_bytes j177_v_position j177_v_tokenAt j177_v_token j177_v_digits j177_v_number j177_v_faultAt v_readMany j177_v_readStoreys j177_v_readPairs v_rows v_sights v_text j177_v_read) → va_S A s.heap H locs → W p l e rm_X5_isLine s m args below meth c H locs 0 0 Q (F0 m 177 ls [.int j177_k2, .int j177_k1, .ref a_read]) := by
    intro j177_x1 j177_k1 j177_k2 j177_v_tokenAt j177_v_digits j177_v_number j177_v_token j177_v_position j177_v_read j177_v_faultAt j177_v_readPairs j177_v_readStoreys ls H locs hf hl hP hD hS
    obtain ⟨h_in, hf⟩ := hf
    refine va_iast hx hb hB.K hP hD hS 2 0 rfl rfl h_in dX5_isLine_177 (fun H locs hP hD hS => ?_)
    have hP : va_P E.1 vwCl (w_X5_isLine E a_t a_storey a_wind a_pair a_text a_read a_now a_image a_isKept a_row a_sight a_ways a_ends a_tried v_storeys v_jacks v_soft v_pairs v_bytes j177_v_position j177_v_tokenAt j177_v_token j177_v_digits j177_v_number j177_v_faultAt v_readMany j177_v_readStoreys j177_v_readPairs v_rows v_sights v_text (upd j177_v_read j177_k1.toNatClampNeg j177_k2)) H := hP
    have hD : va_D A (w_X5_isLine E a_t a_storey a_wind a_pair a_text a_read a_now a_image a_isKept a_row a_sight a_ways a_ends a_tried v_storeys v_jacks v_soft v_pairs v_bytes j177_v_position j177_v_tokenAt j177_v_token j177_v_digits j177_v_number j177_v_faultAt v_readMany j177_v_readStoreys j177_v_readPairs v_rows v_sights v_text (upd j177_v_read j177_k1.toNatClampNeg j177_k2)) := hD
    refine lv_aload_n hx hb dX5_isLine_178 rfl (lv_at hl 0 rfl) ?_
    refine gf_X5_29 hB hP 0 rfl rfl dX5_isLine_179 ?_
    refine lv_iload_n hx hb dX5_isLine_182 rfl (lv_at hl 1 rfl) ?_
    obtain ⟨h_in, hf⟩ := hf
    refine va_iald hx hb hB.K hP 2 0 rfl rfl h_in dX5_isLine_183 ?_
    by_cases c184_0 : ((upd j177_v_read j177_k1.toNatClampNeg j177_k2) j177_x1.toNatClampNeg) = 0
    · have hf := hf.1 c184_0
      refine lv_tableIn (tgt := 240) hx hb dX5_isLine_184 (by rw [c184_0]; decide) (by rw [c184_0]; decide) (by rw [c184_0]; rfl) (by decide) ?_
      refine lv_aload_n hx hb dX5_isLine_240 rfl (lv_at hl 0 rfl) ?_
      refine lv_iload_n hx hb dX5_isLine_241 rfl (lv_at hl 1 rfl) ?_
      refine mx_wi (mx_runV (As := [.int j177_x1]) (rest := []) hB (c_X5_isStoreyLine l E a_t a_storey a_wind a_pair a_text a_read a_now a_image a_isKept a_row a_sight a_ways a_ends a_tried v_storeys v_jacks v_soft v_pairs v_bytes j177_v_position j177_v_tokenAt j177_v_token j177_v_digits j177_v_number j177_v_faultAt v_readMany j177_v_readStoreys j177_v_readPairs v_rows v_sights v_text (upd j177_v_read j177_k1.toNatClampNeg j177_k2) H.size j177_x1 _ hf) sB_X5_isStoreyLine sV_X5_isStoreyLine wml_X5_140 rfl (mx_pwV hB hP hD [0, 1, 2] (by decide) rfl rfl 5 rfl rfl rfl) hl.1 rfl (Nat.le_of_ble_eq_true rfl) dX5_isLine_242 ⟨Nat.zero_le _, Nat.zero_le _⟩) hP hD hS hA [0, 1, 2] [] 3 rfl (fun u => w_X5_isLine E a_t a_storey a_wind a_pair a_text a_read a_now a_image a_isKept a_row a_sight a_ways a_ends a_tried v_storeys v_jacks v_soft v_pairs v_bytes u.2.2.2.2.2.1 u.2.1 u.2.2.2.2.1 u.2.2.1 u.2.2.2.1 u.2.2.2.2.2.2.1 v_readMany u.1 j177_v_readPairs v_rows v_sights v_text u.2.2.2.2.2.2.2) (fun _ => rfl) (by decide) (fun _ => rfl) (fun _ => rfl) rfl (fun _ => rfl) (fun r1 u H locs hf hP hD hS => ?_)
      obtain ⟨u2, u3, u4, u5, u6, u7, u8, u9⟩ := u
      have hP : va_P E.1 vwCl (w_X5_isLine E a_t a_storey a_wind a_pair a_text a_read a_now a_image a_isKept a_row a_sight a_ways a_ends a_tried v_storeys v_jacks v_soft v_pairs v_bytes u7 u3 u6 u4 u5 u8 v_readMany u2 j177_v_readPairs v_rows v_sights v_text u9) H := hP
      have hD : va_D A (w_X5_isLine E a_t a_storey a_wind a_pair a_text a_read a_now a_image a_isKept a_row a_sight a_ways a_ends a_tried v_storeys v_jacks v_soft v_pairs v_bytes u7 u3 u6 u4 u5 u8 v_readMany u2 j177_v_readPairs v_rows v_sights v_text u9) := hD
      obtain ⟨h01, hf⟩ := hf
      exact hRet r1 (u3, u4, u5, u6, u7, u9, u8, j177_v_readPairs, u2) 245 ls H locs dX5_isLine_245 h01 hf hP hS
    · have hf := hf.2 c184_0
      by_cases c184_1 : ((upd j177_v_read j177_k1.toNatClampNeg j177_k2) j177_x1.toNatClampNeg) = 1
      · have hf := hf.1 c184_1
        refine lv_tableIn (tgt := 240) hx hb dX5_isLine_184 (by rw [c184_1]; decide) (by rw [c184_1]; decide) (by rw [c184_1]; rfl) (by decide) ?_
        refine lv_aload_n hx hb dX5_isLine_240 rfl (lv_at hl 0 rfl) ?_
        refine lv_iload_n hx hb dX5_isLine_241 rfl (lv_at hl 1 rfl) ?_
        refine mx_wi (mx_runV (As := [.int j177_x1]) (rest := []) hB (c_X5_isStoreyLine l E a_t a_storey a_wind a_pair a_text a_read a_now a_image a_isKept a_row a_sight a_ways a_ends a_tried v_storeys v_jacks v_soft v_pairs v_bytes j177_v_position j177_v_tokenAt j177_v_token j177_v_digits j177_v_number j177_v_faultAt v_readMany j177_v_readStoreys j177_v_readPairs v_rows v_sights v_text (upd j177_v_read j177_k1.toNatClampNeg j177_k2) H.size j177_x1 _ hf) sB_X5_isStoreyLine sV_X5_isStoreyLine wml_X5_140 rfl (mx_pwV hB hP hD [0, 1, 2] (by decide) rfl rfl 5 rfl rfl rfl) hl.1 rfl (Nat.le_of_ble_eq_true rfl) dX5_isLine_242 ⟨Nat.zero_le _, Nat.zero_le _⟩) hP hD hS hA [0, 1, 2] [] 3 rfl (fun u => w_X5_isLine E a_t a_storey a_wind a_pair a_text a_read a_now a_image a_isKept a_row a_sight a_ways a_ends a_tried v_storeys v_jacks v_soft v_pairs v_bytes u.2.2.2.2.2.1 u.2.1 u.2.2.2.2.1 u.2.2.1 u.2.2.2.1 u.2.2.2.2.2.2.1 v_readMany u.1 j177_v_readPairs v_rows v_sights v_text u.2.2.2.2.2.2.2) (fun _ => rfl) (by decide) (fun _ => rfl) (fun _ => rfl) rfl (fun _ => rfl) (fun r10 u H locs hf hP hD hS => ?_)
        obtain ⟨u11, u12, u13, u14, u15, u16, u17, u18⟩ := u
        have hP : va_P E.1 vwCl (w_X5_isLine E a_t a_storey a_wind a_pair a_text a_read a_now a_image a_isKept a_row a_sight a_ways a_ends a_tried v_storeys v_jacks v_soft v_pairs v_bytes u16 u12 u15 u13 u14 u17 v_readMany u11 j177_v_readPairs v_rows v_sights v_text u18) H := hP
        have hD : va_D A (w_X5_isLine E a_t a_storey a_wind a_pair a_text a_read a_now a_image a_isKept a_row a_sight a_ways a_ends a_tried v_storeys v_jacks v_soft v_pairs v_bytes u16 u12 u15 u13 u14 u17 v_readMany u11 j177_v_readPairs v_rows v_sights v_text u18) := hD
        obtain ⟨h01, hf⟩ := hf
        exact hRet r10 (u12, u13, u14, u15, u16, u18, u17, j177_v_readPairs, u11) 245 ls H locs dX5_isLine_245 h01 hf hP hS
      · have hf := hf.2 c184_1
        by_cases c184_2 : ((upd j177_v_read j177_k1.toNatClampNeg j177_k2) j177_x1.toNatClampNeg) = 2
        · have hf := hf.1 c184_2
          refine lv_tableIn (tgt := 240) hx hb dX5_isLine_184 (by rw [c184_2]; decide) (by rw [c184_2]; decide) (by rw [c184_2]; rfl) (by decide) ?_
          refine lv_aload_n hx hb dX5_isLine_240 rfl (lv_at hl 0 rfl) ?_
          refine lv_iload_n hx hb dX5_isLine_241 rfl (lv_at hl 1 rfl) ?_
          refine mx_wi (mx_runV (As := [.int j177_x1]) (rest := []) hB (c_X5_isStoreyLine l E a_t a_storey a_wind a_pair a_text a_read a_now a_image a_isKept a_row a_sight a_ways a_ends a_tried v_storeys v_jacks v_soft v_pairs v_bytes j177_v_position j177_v_tokenAt j177_v_token j177_v_digits j177_v_number j177_v_faultAt v_readMany j177_v_readStoreys j177_v_readPairs v_rows v_sights v_text (upd j177_v_read j177_k1.toNatClampNeg j177_k2) H.size j177_x1 _ hf) sB_X5_isStoreyLine sV_X5_isStoreyLine wml_X5_140 rfl (mx_pwV hB hP hD [0, 1, 2] (by decide) rfl rfl 5 rfl rfl rfl) hl.1 rfl (Nat.le_of_ble_eq_true rfl) dX5_isLine_242 ⟨Nat.zero_le _, Nat.zero_le _⟩) hP hD hS hA [0, 1, 2] [] 3 rfl (fun u => w_X5_isLine E a_t a_storey a_wind a_pair a_text a_read a_now a_image a_isKept a_row a_sight a_ways a_ends a_tried v_storeys v_jacks v_soft v_pairs v_bytes u.2.2.2.2.2.1 u.2.1 u.2.2.2.2.1 u.2.2.1 u.2.2.2.1 u.2.2.2.2.2.2.1 v_readMany u.1 j177_v_readPairs v_rows v_sights v_text u.2.2.2.2.2.2.2) (fun _ => rfl) (by decide) (fun _ => rfl) (fun _ => rfl) rfl (fun _ => rfl) (fun r19 u H locs hf hP hD hS => ?_)
          obtain ⟨u20, u21, u22, u23, u24, u25, u26, u27⟩ := u
          have hP : va_P E.1 vwCl (w_X5_isLine E a_t a_storey a_wind a_pair a_text a_read a_now a_image a_isKept a_row a_sight a_ways a_ends a_tried v_storeys v_jacks v_soft v_pairs v_bytes u25 u21 u24 u22 u23 u26 v_readMany u20 j177_v_readPairs v_rows v_sights v_text u27) H := hP
          have hD : va_D A (w_X5_isLine E a_t a_storey a_wind a_pair a_text a_read a_now a_image a_isKept a_row a_sight a_ways a_ends a_tried v_storeys v_jacks v_soft v_pairs v_bytes u25 u21 u24 u22 u23 u26 v_readMany u20 j177_v_readPairs v_rows v_sights v_text u27) := hD
          obtain ⟨h01, hf⟩ := hf
          exact hRet r19 (u21, u22, u23, u24, u25, u27, u26, j177_v_readPairs, u20) 245 ls H locs dX5_isLine_245 h01 hf hP hS
        · have hf := hf.2 c184_2
          by_cases c184_3 : ((upd j177_v_read j177_k1.toNatClampNeg j177_k2) j177_x1.toNatClampNeg) = 3
          · have hf := hf.1 c184_3
            refine lv_tableIn (tgt := 240) hx hb dX5_isLine_184 (by rw [c184_3]; decide) (by rw [c184_3]; decide) (by rw [c184_3]; rfl) (by decide) ?_
            refine lv_aload_n hx hb dX5_isLine_240 rfl (lv_at hl 0 rfl) ?_
            refine lv_iload_n hx hb dX5_isLine_241 rfl (lv_at hl 1 rfl) ?_
            refine mx_wi (mx_runV (As := [.int j177_x1]) (rest := []) hB (c_X5_isStoreyLine l E a_t a_storey a_wind a_pair a_text a_read a_now a_image a_isKept a_row a_sight a_ways a_ends a_tried v_storeys v_jacks v_soft v_pairs v_bytes j177_v_position j177_v_tokenAt j177_v_token j177_v_digits j177_v_number j177_v_faultAt v_readMany j177_v_readStoreys j177_v_readPairs v_rows v_sights v_text (upd j177_v_read j177_k1.toNatClampNeg j177_k2) H.size j177_x1 _ hf) sB_X5_isStoreyLine sV_X5_isStoreyLine wml_X5_140 rfl (mx_pwV hB hP hD [0, 1, 2] (by decide) rfl rfl 5 rfl rfl rfl) hl.1 rfl (Nat.le_of_ble_eq_true rfl) dX5_isLine_242 ⟨Nat.zero_le _, Nat.zero_le _⟩) hP hD hS hA [0, 1, 2] [] 3 rfl (fun u => w_X5_isLine E a_t a_storey a_wind a_pair a_text a_read a_now a_image a_isKept a_row a_sight a_ways a_ends a_tried v_storeys v_jacks v_soft v_pairs v_bytes u.2.2.2.2.2.1 u.2.1 u.2.2.2.2.1 u.2.2.1 u.2.2.2.1 u.2.2.2.2.2.2.1 v_readMany u.1 j177_v_readPairs v_rows v_sights v_text u.2.2.2.2.2.2.2) (fun _ => rfl) (by decide) (fun _ => rfl) (fun _ => rfl) rfl (fun _ => rfl) (fun r28 u H locs hf hP hD hS => ?_)
            obtain ⟨u29, u30, u31, u32, u33, u34, u35, u36⟩ := u
            have hP : va_P E.1 vwCl (w_X5_isLine E a_t a_storey a_wind a_pair a_text a_read a_now a_image a_isKept a_row a_sight a_ways a_ends a_tried v_storeys v_jacks v_soft v_pairs v_bytes u34 u30 u33 u31 u32 u35 v_readMany u29 j177_v_readPairs v_rows v_sights v_text u36) H := hP
            have hD : va_D A (w_X5_isLine E a_t a_storey a_wind a_pair a_text a_read a_now a_image a_isKept a_row a_sight a_ways a_ends a_tried v_storeys v_jacks v_soft v_pairs v_bytes u34 u30 u33 u31 u32 u35 v_readMany u29 j177_v_readPairs v_rows v_sights v_text u36) := hD
            obtain ⟨h01, hf⟩ := hf
            exact hRet r28 (u30, u31, u32, u33, u34, u36, u35, j177_v_readPairs, u29) 245 ls H locs dX5_isLine_245 h01 hf hP hS
          · have hf := hf.2 c184_3
            by_cases c184_4 : ((upd j177_v_read j177_k1.toNatClampNeg j177_k2) j177_x1.toNatClampNeg) = 4
            · have hf := hf.1 c184_4
              refine lv_tableIn (tgt := 246) hx hb dX5_isLine_184 (by rw [c184_4]; decide) (by rw [c184_4]; decide) (by rw [c184_4]; rfl) (by decide) ?_
              refine lv_aload_n hx hb dX5_isLine_246 rfl (lv_at hl 0 rfl) ?_
              refine lv_iconst hx hb dX5_isLine_247 kc_i_0 ?_
              refine pf_X5_107 hB hP hD hS 0 rfl (Nat.le_of_ble_eq_true rfl) dX5_isLine_248 (w_X5_isLine E a_t a_storey a_wind a_pair a_text a_read a_now a_image a_isKept a_row a_sight a_ways a_ends a_tried v_storeys v_jacks v_soft v_pairs v_bytes j177_v_position j177_v_tokenAt j177_v_token j177_v_digits j177_v_number j177_v_faultAt v_readMany 0 j177_v_readPairs v_rows v_sights v_text (upd j177_v_read j177_k1.toNatClampNeg j177_k2)) rfl (fun H locs hP hD hS => ?_)
              refine lv_aload_n hx hb dX5_isLine_251 rfl (lv_at hl 0 rfl) ?_
              refine lv_iconst hx hb dX5_isLine_252 kc_i_0 ?_
              refine pf_X5_113 hB hP hD hS 0 rfl (Nat.le_of_ble_eq_true rfl) dX5_isLine_253 (w_X5_isLine E a_t a_storey a_wind a_pair a_text a_read a_now a_image a_isKept a_row a_sight a_ways a_ends a_tried v_storeys v_jacks v_soft v_pairs v_bytes j177_v_position j177_v_tokenAt j177_v_token j177_v_digits j177_v_number j177_v_faultAt v_readMany 0 0 v_rows v_sights v_text (upd j177_v_read j177_k1.toNatClampNeg j177_k2)) rfl (fun H locs hP hD hS => ?_)
              refine lv_iconst hx hb dX5_isLine_256 kc_i_1 ?_
              exact hRet 1 (j177_v_tokenAt, j177_v_digits, j177_v_number, j177_v_token, j177_v_position, upd j177_v_read j177_k1.toNatClampNeg j177_k2, j177_v_faultAt, 0, 0) 257 ls H locs dX5_isLine_257 (Or.inr rfl) hf hP hS
            · have hf := hf.2 c184_4
              by_cases c184_5 : ((upd j177_v_read j177_k1.toNatClampNeg j177_k2) j177_x1.toNatClampNeg) = 5
              · have hf := hf.1 c184_5
                refine lv_tableIn (tgt := 258) hx hb dX5_isLine_184 (by rw [c184_5]; decide) (by rw [c184_5]; decide) (by rw [c184_5]; rfl) (by decide) ?_
                refine lv_aload_n hx hb dX5_isLine_258 rfl (lv_at hl 0 rfl) ?_
                refine lv_iload_n hx hb dX5_isLine_259 rfl (lv_at hl 1 rfl) ?_
                refine lv_iconst hx hb dX5_isLine_260 kc_i_1 ?_
                refine lv_iadd hx hb dX5_isLine_261 ?_
                refine mx_wi (mx_runV (As := [.int (j177_x1 + 1)]) (rest := []) hB (c_X5_isThere l E a_t a_storey a_wind a_pair a_text a_read a_now a_image a_isKept a_row a_sight a_ways a_ends a_tried v_storeys v_jacks v_soft v_pairs v_bytes j177_v_position j177_v_tokenAt j177_v_token j177_v_digits j177_v_number j177_v_faultAt v_readMany j177_v_readStoreys j177_v_readPairs v_rows v_sights v_text (upd j177_v_read j177_k1.toNatClampNeg j177_k2) H.size (j177_x1 + 1) _ hf) sB_X5_isThere sV_X5_isThere wml_X5_116 rfl (mx_pwV hB hP hD [0, 1, 2] (by decide) rfl rfl 5 rfl rfl rfl) hl.1 rfl (Nat.le_of_ble_eq_true rfl) dX5_isLine_262 ⟨Nat.zero_le _, Nat.zero_le _⟩) hP hD hS hA [0, 1, 2] [] 3 rfl (fun u => w_X5_isLine E a_t a_storey a_wind a_pair a_text a_read a_now a_image a_isKept a_row a_sight a_ways a_ends a_tried v_storeys v_jacks v_soft v_pairs v_bytes u.2.2.2.2.1 u.1 u.2.2.2.1 u.2.1 u.2.2.1 u.2.2.2.2.2.1 v_readMany j177_v_readStoreys j177_v_readPairs v_rows v_sights v_text u.2.2.2.2.2.2) (fun _ => rfl) (by decide) (fun _ => rfl) (fun _ => rfl) rfl (fun _ => rfl) (fun r37 u H locs hf hP hD hS => ?_)
                obtain ⟨u38, u39, u40, u41, u42, u43, u44⟩ := u
                have hP : va_P E.1 vwCl (w_X5_isLine E a_t a_storey a_wind a_pair a_text a_read a_now a_image a_isKept a_row a_sight a_ways a_ends a_tried v_storeys v_jacks v_soft v_pairs v_bytes u42 u38 u41 u39 u40 u43 v_readMany j177_v_readStoreys j177_v_readPairs v_rows v_sights v_text u44) H := hP
                have hD : va_D A (w_X5_isLine E a_t a_storey a_wind a_pair a_text a_read a_now a_image a_isKept a_row a_sight a_ways a_ends a_tried v_storeys v_jacks v_soft v_pairs v_bytes u42 u38 u41 u39 u40 u43 v_readMany j177_v_readStoreys j177_v_readPairs v_rows v_sights v_text u44) := hD
                refine lv_if_eq (tgt := 285) hx hb dX5_isLine_265 (by decide) (fun c265 => ?_) (fun c265 => ?_)
                · have hf := hf.1 c265
                  refine lv_iconst hx hb dX5_isLine_285 kc_i_0 ?_
                  exact hRet 0 (u38, u39, u40, u41, u42, u44, u43, j177_v_readPairs, j177_v_readStoreys) 286 ls H locs dX5_isLine_286 (Or.inl rfl) hf hP hS
                · have hf := hf.2 c265
                  refine lv_aload_n hx hb dX5_isLine_268 rfl (lv_at hl 0 rfl) ?_
                  refine lv_iload_n hx hb dX5_isLine_269 rfl (lv_at hl 1 rfl) ?_
                  refine lv_iconst hx hb dX5_isLine_270 kc_i_2 ?_
                  refine lv_iadd hx hb dX5_isLine_271 ?_
                  refine lv_iconst hx hb dX5_isLine_272 kc_i_0 ?_
                  refine lv_bipush hx hb dX5_isLine_273 kc_b_99 ?_
                  refine mx_wi (mx_runV (As := [.int (j177_x1 + 2), .int 0, .int 99]) (rest := []) hB (c_X5_isNumber l E a_t a_storey a_wind a_pair a_text a_read a_now a_image a_isKept a_row a_sight a_ways a_ends a_tried v_storeys v_jacks v_soft v_pairs v_bytes u42 u38 u41 u39 u40 u43 v_readMany j177_v_readStoreys j177_v_readPairs v_rows v_sights v_text u44 H.size (j177_x1 + 2) 0 99 _ hf) sB_X5_isNumber sV_X5_isNumber wml_X5_110 rfl (mx_pwV hB hP hD [0, 1, 2] (by decide) rfl rfl 5 rfl rfl rfl) hl.1 rfl (Nat.le_of_ble_eq_true rfl) dX5_isLine_275 ⟨Nat.zero_le _, Nat.zero_le _⟩) hP hD hS hA [0, 1, 2] [] 3 rfl (fun u => w_X5_isLine E a_t a_storey a_wind a_pair a_text a_read a_now a_image a_isKept a_row a_sight a_ways a_ends a_tried v_storeys v_jacks v_soft v_pairs v_bytes u.2.2.2.2.1 u.1 u.2.2.2.1 u.2.1 u.2.2.1 u.2.2.2.2.2.1 v_readMany j177_v_readStoreys j177_v_readPairs v_rows v_sights v_text u.2.2.2.2.2.2) (fun _ => rfl) (by decide) (fun _ => rfl) (fun _ => rfl) rfl (fun _ => rfl) (fun r45 u H locs hf hP hD hS => ?_)
                  obtain ⟨u46, u47, u48, u49, u50, u51, u52⟩ := u
                  have hP : va_P E.1 vwCl (w_X5_isLine E a_t a_storey a_wind a_pair a_text a_read a_now a_image a_isKept a_row a_sight a_ways a_ends a_tried v_storeys v_jacks v_soft v_pairs v_bytes u50 u46 u49 u47 u48 u51 v_readMany j177_v_readStoreys j177_v_readPairs v_rows v_sights v_text u52) H := hP
                  have hD : va_D A (w_X5_isLine E a_t a_storey a_wind a_pair a_text a_read a_now a_image a_isKept a_row a_sight a_ways a_ends a_tried v_storeys v_jacks v_soft v_pairs v_bytes u50 u46 u49 u47 u48 u51 v_readMany j177_v_readStoreys j177_v_readPairs v_rows v_sights v_text u52) := hD
                  refine lv_if_eq (tgt := 285) hx hb dX5_isLine_278 (by decide) (fun c278 => ?_) (fun c278 => ?_)
                  · have hf := hf.1 c278
                    refine lv_iconst hx hb dX5_isLine_285 kc_i_0 ?_
                    exact hRet 0 (u46, u47, u48, u49, u50, u52, u51, j177_v_readPairs, j177_v_readStoreys) 286 ls H locs dX5_isLine_286 (Or.inl rfl) hf hP hS
                  · have hf := hf.2 c278
                    refine lv_iconst hx hb dX5_isLine_281 kc_i_1 ?_
                    refine lv_goto (tgt := 286) hx hb dX5_isLine_282 (by decide) ?_
                    exact hRet 1 (u46, u47, u48, u49, u50, u52, u51, j177_v_readPairs, j177_v_readStoreys) 286 ls H locs dX5_isLine_286 (Or.inr rfl) hf hP hS
              · have hf := hf.2 c184_5
                by_cases c184_6 : ((upd j177_v_read j177_k1.toNatClampNeg j177_k2) j177_x1.toNatClampNeg) = 6
                · have hf := hf.1 c184_6
                  refine lv_tableIn (tgt := 287) hx hb dX5_isLine_184 (by rw [c184_6]; decide) (by rw [c184_6]; decide) (by rw [c184_6]; rfl) (by decide) ?_
                  refine lv_aload_n hx hb dX5_isLine_287 rfl (lv_at hl 0 rfl) ?_
                  refine lv_iload_n hx hb dX5_isLine_288 rfl (lv_at hl 1 rfl) ?_
                  refine lv_iconst hx hb dX5_isLine_289 kc_i_1 ?_
                  refine lv_iadd hx hb dX5_isLine_290 ?_
                  refine lv_iconst hx hb dX5_isLine_291 kc_i_0 ?_
                  refine lv_sipush hx hb dX5_isLine_292 kc_s_999 ?_
                  refine mx_wi (mx_runV (As := [.int (j177_x1 + 1), .int 0, .int 999]) (rest := []) hB (c_X5_isNumber l E a_t a_storey a_wind a_pair a_text a_read a_now a_image a_isKept a_row a_sight a_ways a_ends a_tried v_storeys v_jacks v_soft v_pairs v_bytes j177_v_position j177_v_tokenAt j177_v_token j177_v_digits j177_v_number j177_v_faultAt v_readMany j177_v_readStoreys j177_v_readPairs v_rows v_sights v_text (upd j177_v_read j177_k1.toNatClampNeg j177_k2) H.size (j177_x1 + 1) 0 999 _ hf) sB_X5_isNumber sV_X5_isNumber wml_X5_110 rfl (mx_pwV hB hP hD [0, 1, 2] (by decide) rfl rfl 5 rfl rfl rfl) hl.1 rfl (Nat.le_of_ble_eq_true rfl) dX5_isLine_295 ⟨Nat.zero_le _, Nat.zero_le _⟩) hP hD hS hA [0, 1, 2] [] 3 rfl (fun u => w_X5_isLine E a_t a_storey a_wind a_pair a_text a_read a_now a_image a_isKept a_row a_sight a_ways a_ends a_tried v_storeys v_jacks v_soft v_pairs v_bytes u.2.2.2.2.1 u.1 u.2.2.2.1 u.2.1 u.2.2.1 u.2.2.2.2.2.1 v_readMany j177_v_readStoreys j177_v_readPairs v_rows v_sights v_text u.2.2.2.2.2.2) (fun _ => rfl) (by decide) (fun _ => rfl) (fun _ => rfl) rfl (fun _ => rfl) (fun r53 u H locs hf hP hD hS => ?_)
                  obtain ⟨u54, u55, u56, u57, u58, u59, u60⟩ := u
                  have hP : va_P E.1 vwCl (w_X5_isLine E a_t a_storey a_wind a_pair a_text a_read a_now a_image a_isKept a_row a_sight a_ways a_ends a_tried v_storeys v_jacks v_soft v_pairs v_bytes u58 u54 u57 u55 u56 u59 v_readMany j177_v_readStoreys j177_v_readPairs v_rows v_sights v_text u60) H := hP
                  have hD : va_D A (w_X5_isLine E a_t a_storey a_wind a_pair a_text a_read a_now a_image a_isKept a_row a_sight a_ways a_ends a_tried v_storeys v_jacks v_soft v_pairs v_bytes u58 u54 u57 u55 u56 u59 v_readMany j177_v_readStoreys j177_v_readPairs v_rows v_sights v_text u60) := hD
                  obtain ⟨h01, hf⟩ := hf
                  exact hRet r53 (u54, u55, u56, u57, u58, u60, u59, j177_v_readPairs, j177_v_readStoreys) 298 ls H locs dX5_isLine_298 h01 hf hP hS
                · have hf := hf.2 c184_6
                  by_cases c184_7 : ((upd j177_v_read j177_k1.toNatClampNeg j177_k2) j177_x1.toNatClampNeg) = 7
                  · have hf := hf.1 c184_7
                    refine lv_tableIn (tgt := 299) hx hb dX5_isLine_184 (by rw [c184_7]; decide) (by rw [c184_7]; decide) (by rw [c184_7]; rfl) (by decide) ?_
                    refine lv_aload_n hx hb dX5_isLine_299 rfl (lv_at hl 0 rfl) ?_
                    refine lv_iload_n hx hb dX5_isLine_300 rfl (lv_at hl 1 rfl) ?_
                    refine lv_iconst hx hb dX5_isLine_301 kc_i_1 ?_
                    refine lv_iadd hx hb dX5_isLine_302 ?_
                    refine lv_iconst hx hb dX5_isLine_303 kc_i_1 ?_
                    refine lv_bipush hx hb dX5_isLine_304 kc_b_99 ?_
                    refine mx_wi (mx_runV (As := [.int (j177_x1 + 1), .int 1, .int 99]) (rest := []) hB (c_X5_isNumber l E a_t a_storey a_wind a_pair a_text a_read a_now a_image a_isKept a_row a_sight a_ways a_ends a_tried v_storeys v_jacks v_soft v_pairs v_bytes j177_v_position j177_v_tokenAt j177_v_token j177_v_digits j177_v_number j177_v_faultAt v_readMany j177_v_readStoreys j177_v_readPairs v_rows v_sights v_text (upd j177_v_read j177_k1.toNatClampNeg j177_k2) H.size (j177_x1 + 1) 1 99 _ hf) sB_X5_isNumber sV_X5_isNumber wml_X5_110 rfl (mx_pwV hB hP hD [0, 1, 2] (by decide) rfl rfl 5 rfl rfl rfl) hl.1 rfl (Nat.le_of_ble_eq_true rfl) dX5_isLine_306 ⟨Nat.zero_le _, Nat.zero_le _⟩) hP hD hS hA [0, 1, 2] [] 3 rfl (fun u => w_X5_isLine E a_t a_storey a_wind a_pair a_text a_read a_now a_image a_isKept a_row a_sight a_ways a_ends a_tried v_storeys v_jacks v_soft v_pairs v_bytes u.2.2.2.2.1 u.1 u.2.2.2.1 u.2.1 u.2.2.1 u.2.2.2.2.2.1 v_readMany j177_v_readStoreys j177_v_readPairs v_rows v_sights v_text u.2.2.2.2.2.2) (fun _ => rfl) (by decide) (fun _ => rfl) (fun _ => rfl) rfl (fun _ => rfl) (fun r61 u H locs hf hP hD hS => ?_)
                    obtain ⟨u62, u63, u64, u65, u66, u67, u68⟩ := u
                    have hP : va_P E.1 vwCl (w_X5_isLine E a_t a_storey a_wind a_pair a_text a_read a_now a_image a_isKept a_row a_sight a_ways a_ends a_tried v_storeys v_jacks v_soft v_pairs v_bytes u66 u62 u65 u63 u64 u67 v_readMany j177_v_readStoreys j177_v_readPairs v_rows v_sights v_text u68) H := hP
                    have hD : va_D A (w_X5_isLine E a_t a_storey a_wind a_pair a_text a_read a_now a_image a_isKept a_row a_sight a_ways a_ends a_tried v_storeys v_jacks v_soft v_pairs v_bytes u66 u62 u65 u63 u64 u67 v_readMany j177_v_readStoreys j177_v_readPairs v_rows v_sights v_text u68) := hD
                    obtain ⟨h01, hf⟩ := hf
                    exact hRet r61 (u62, u63, u64, u65, u66, u68, u67, j177_v_readPairs, j177_v_readStoreys) 309 ls H locs dX5_isLine_309 h01 hf hP hS
                  · have hf := hf.2 c184_7
                    by_cases c184_8 : ((upd j177_v_read j177_k1.toNatClampNeg j177_k2) j177_x1.toNatClampNeg) = 8
                    · have hf := hf.1 c184_8
                      refine lv_tableIn (tgt := 310) hx hb dX5_isLine_184 (by rw [c184_8]; decide) (by rw [c184_8]; decide) (by rw [c184_8]; rfl) (by decide) ?_
                      refine lv_aload_n hx hb dX5_isLine_310 rfl (lv_at hl 0 rfl) ?_
                      refine lv_iload_n hx hb dX5_isLine_311 rfl (lv_at hl 1 rfl) ?_
                      refine lv_iconst hx hb dX5_isLine_312 kc_i_1 ?_
                      refine lv_iadd hx hb dX5_isLine_313 ?_
                      refine lv_iconst hx hb dX5_isLine_314 kc_i_0 ?_
                      refine lv_bipush hx hb dX5_isLine_315 kc_b_39 ?_
                      refine mx_wi (mx_runV (As := [.int (j177_x1 + 1), .int 0, .int 39]) (rest := []) hB (c_X5_isNumber l E a_t a_storey a_wind a_pair a_text a_read a_now a_image a_isKept a_row a_sight a_ways a_ends a_tried v_storeys v_jacks v_soft v_pairs v_bytes j177_v_position j177_v_tokenAt j177_v_token j177_v_digits j177_v_number j177_v_faultAt v_readMany j177_v_readStoreys j177_v_readPairs v_rows v_sights v_text (upd j177_v_read j177_k1.toNatClampNeg j177_k2) H.size (j177_x1 + 1) 0 39 _ hf) sB_X5_isNumber sV_X5_isNumber wml_X5_110 rfl (mx_pwV hB hP hD [0, 1, 2] (by decide) rfl rfl 5 rfl rfl rfl) hl.1 rfl (Nat.le_of_ble_eq_true rfl) dX5_isLine_317 ⟨Nat.zero_le _, Nat.zero_le _⟩) hP hD hS hA [0, 1, 2] [] 3 rfl (fun u => w_X5_isLine E a_t a_storey a_wind a_pair a_text a_read a_now a_image a_isKept a_row a_sight a_ways a_ends a_tried v_storeys v_jacks v_soft v_pairs v_bytes u.2.2.2.2.1 u.1 u.2.2.2.1 u.2.1 u.2.2.1 u.2.2.2.2.2.1 v_readMany j177_v_readStoreys j177_v_readPairs v_rows v_sights v_text u.2.2.2.2.2.2) (fun _ => rfl) (by decide) (fun _ => rfl) (fun _ => rfl) rfl (fun _ => rfl) (fun r69 u H locs hf hP hD hS => ?_)
                      obtain ⟨u70, u71, u72, u73, u74, u75, u76⟩ := u
                      have hP : va_P E.1 vwCl (w_X5_isLine E a_t a_storey a_wind a_pair a_text a_read a_now a_image a_isKept a_row a_sight a_ways a_ends a_tried v_storeys v_jacks v_soft v_pairs v_bytes u74 u70 u73 u71 u72 u75 v_readMany j177_v_readStoreys j177_v_readPairs v_rows v_sights v_text u76) H := hP
                      have hD : va_D A (w_X5_isLine E a_t a_storey a_wind a_pair a_text a_read a_now a_image a_isKept a_row a_sight a_ways a_ends a_tried v_storeys v_jacks v_soft v_pairs v_bytes u74 u70 u73 u71 u72 u75 v_readMany j177_v_readStoreys j177_v_readPairs v_rows v_sights v_text u76) := hD
                      refine lv_if_eq (tgt := 360) hx hb dX5_isLine_320 (by decide) (fun c320 => ?_) (fun c320 => ?_)
                      · have hf := hf.1 c320
                        refine lv_iconst hx hb dX5_isLine_360 kc_i_0 ?_
                        exact hRet 0 (u70, u71, u72, u73, u74, u76, u75, j177_v_readPairs, j177_v_readStoreys) 361 ls H locs dX5_isLine_361 (Or.inl rfl) hf hP hS
                      · have hf := hf.2 c320
                        refine lv_aload_n hx hb dX5_isLine_323 rfl (lv_at hl 0 rfl) ?_
                        refine lv_iload_n hx hb dX5_isLine_324 rfl (lv_at hl 1 rfl) ?_
                        refine lv_iconst hx hb dX5_isLine_325 kc_i_2 ?_
                        refine lv_iadd hx hb dX5_isLine_326 ?_
                        refine lv_aload_n hx hb dX5_isLine_327 rfl (lv_at hl 0 rfl) ?_
                        refine gf_X5_29 hB hP 0 rfl rfl dX5_isLine_328 ?_
                        refine lv_iload_n hx hb dX5_isLine_331 rfl (lv_at hl 1 rfl) ?_
                        refine lv_iconst hx hb dX5_isLine_332 kc_i_1 ?_
                        refine lv_iadd hx hb dX5_isLine_333 ?_
                        obtain ⟨h_in, hf⟩ := hf
                        refine va_iald hx hb hB.K hP 2 0 rfl rfl h_in dX5_isLine_334 ?_
                        refine lv_bipush hx hb dX5_isLine_335 kc_b_39 ?_
                        refine mx_wi (mx_runV (As := [.int (j177_x1 + 2), .int (u76 (j177_x1 + 1).toNatClampNeg), .int 39]) (rest := []) hB (c_X5_isNumber l E a_t a_storey a_wind a_pair a_text a_read a_now a_image a_isKept a_row a_sight a_ways a_ends a_tried v_storeys v_jacks v_soft v_pairs v_bytes u74 u70 u73 u71 u72 u75 v_readMany j177_v_readStoreys j177_v_readPairs v_rows v_sights v_text u76 H.size (j177_x1 + 2) (u76 (j177_x1 + 1).toNatClampNeg) 39 _ hf) sB_X5_isNumber sV_X5_isNumber wml_X5_110 rfl (mx_pwV hB hP hD [0, 1, 2] (by decide) rfl rfl 5 rfl rfl rfl) hl.1 rfl (Nat.le_of_ble_eq_true rfl) dX5_isLine_337 ⟨Nat.zero_le _, Nat.zero_le _⟩) hP hD hS hA [0, 1, 2] [] 3 rfl (fun u => w_X5_isLine E a_t a_storey a_wind a_pair a_text a_read a_now a_image a_isKept a_row a_sight a_ways a_ends a_tried v_storeys v_jacks v_soft v_pairs v_bytes u.2.2.2.2.1 u.1 u.2.2.2.1 u.2.1 u.2.2.1 u.2.2.2.2.2.1 v_readMany j177_v_readStoreys j177_v_readPairs v_rows v_sights v_text u.2.2.2.2.2.2) (fun _ => rfl) (by decide) (fun _ => rfl) (fun _ => rfl) rfl (fun _ => rfl) (fun r77 u H locs hf hP hD hS => ?_)
                        obtain ⟨u78, u79, u80, u81, u82, u83, u84⟩ := u
                        have hP : va_P E.1 vwCl (w_X5_isLine E a_t a_storey a_wind a_pair a_text a_read a_now a_image a_isKept a_row a_sight a_ways a_ends a_tried v_storeys v_jacks v_soft v_pairs v_bytes u82 u78 u81 u79 u80 u83 v_readMany j177_v_readStoreys j177_v_readPairs v_rows v_sights v_text u84) H := hP
                        have hD : va_D A (w_X5_isLine E a_t a_storey a_wind a_pair a_text a_read a_now a_image a_isKept a_row a_sight a_ways a_ends a_tried v_storeys v_jacks v_soft v_pairs v_bytes u82 u78 u81 u79 u80 u83 v_readMany j177_v_readStoreys j177_v_readPairs v_rows v_sights v_text u84) := hD
                        refine lv_if_eq (tgt := 360) hx hb dX5_isLine_340 (by decide) (fun c340 => ?_) (fun c340 => ?_)
                        · have hf := hf.1 c340
                          refine lv_iconst hx hb dX5_isLine_360 kc_i_0 ?_
                          exact hRet 0 (u78, u79, u80, u81, u82, u84, u83, j177_v_readPairs, j177_v_readStoreys) 361 ls H locs dX5_isLine_361 (Or.inl rfl) hf hP hS
                        · have hf := hf.2 c340
                          refine lv_aload_n hx hb dX5_isLine_343 rfl (lv_at hl 0 rfl) ?_
                          refine lv_iload_n hx hb dX5_isLine_344 rfl (lv_at hl 1 rfl) ?_
                          refine lv_iconst hx hb dX5_isLine_345 kc_i_3 ?_
                          refine lv_iadd hx hb dX5_isLine_346 ?_
                          refine lv_iconst hx hb dX5_isLine_347 kc_i_0 ?_
                          refine lv_bipush hx hb dX5_isLine_348 kc_b_9 ?_
                          refine mx_wi (mx_runV (As := [.int (j177_x1 + 3), .int 0, .int 9]) (rest := []) hB (c_X5_isNumber l E a_t a_storey a_wind a_pair a_text a_read a_now a_image a_isKept a_row a_sight a_ways a_ends a_tried v_storeys v_jacks v_soft v_pairs v_bytes u82 u78 u81 u79 u80 u83 v_readMany j177_v_readStoreys j177_v_readPairs v_rows v_sights v_text u84 H.size (j177_x1 + 3) 0 9 _ hf) sB_X5_isNumber sV_X5_isNumber wml_X5_110 rfl (mx_pwV hB hP hD [0, 1, 2] (by decide) rfl rfl 5 rfl rfl rfl) hl.1 rfl (Nat.le_of_ble_eq_true rfl) dX5_isLine_350 ⟨Nat.zero_le _, Nat.zero_le _⟩) hP hD hS hA [0, 1, 2] [] 3 rfl (fun u => w_X5_isLine E a_t a_storey a_wind a_pair a_text a_read a_now a_image a_isKept a_row a_sight a_ways a_ends a_tried v_storeys v_jacks v_soft v_pairs v_bytes u.2.2.2.2.1 u.1 u.2.2.2.1 u.2.1 u.2.2.1 u.2.2.2.2.2.1 v_readMany j177_v_readStoreys j177_v_readPairs v_rows v_sights v_text u.2.2.2.2.2.2) (fun _ => rfl) (by decide) (fun _ => rfl) (fun _ => rfl) rfl (fun _ => rfl) (fun r85 u H locs hf hP hD hS => ?_)
                          obtain ⟨u86, u87, u88, u89, u90, u91, u92⟩ := u
                          have hP : va_P E.1 vwCl (w_X5_isLine E a_t a_storey a_wind a_pair a_text a_read a_now a_image a_isKept a_row a_sight a_ways a_ends a_tried v_storeys v_jacks v_soft v_pairs v_bytes u90 u86 u89 u87 u88 u91 v_readMany j177_v_readStoreys j177_v_readPairs v_rows v_sights v_text u92) H := hP
                          have hD : va_D A (w_X5_isLine E a_t a_storey a_wind a_pair a_text a_read a_now a_image a_isKept a_row a_sight a_ways a_ends a_tried v_storeys v_jacks v_soft v_pairs v_bytes u90 u86 u89 u87 u88 u91 v_readMany j177_v_readStoreys j177_v_readPairs v_rows v_sights v_text u92) := hD
                          refine lv_if_eq (tgt := 360) hx hb dX5_isLine_353 (by decide) (fun c353 => ?_) (fun c353 => ?_)
                          · have hf := hf.1 c353
                            refine lv_iconst hx hb dX5_isLine_360 kc_i_0 ?_
                            exact hRet 0 (u86, u87, u88, u89, u90, u92, u91, j177_v_readPairs, j177_v_readStoreys) 361 ls H locs dX5_isLine_361 (Or.inl rfl) hf hP hS
                          · have hf := hf.2 c353
                            refine lv_iconst hx hb dX5_isLine_356 kc_i_1 ?_
                            refine lv_goto (tgt := 361) hx hb dX5_isLine_357 (by decide) ?_
                            exact hRet 1 (u86, u87, u88, u89, u90, u92, u91, j177_v_readPairs, j177_v_readStoreys) 361 ls H locs dX5_isLine_361 (Or.inr rfl) hf hP hS
                    · have hf := hf.2 c184_8
                      by_cases c184_9 : ((upd j177_v_read j177_k1.toNatClampNeg j177_k2) j177_x1.toNatClampNeg) = 9
                      · have hf := hf.1 c184_9
                        refine lv_tableIn (tgt := 362) hx hb dX5_isLine_184 (by rw [c184_9]; decide) (by rw [c184_9]; decide) (by rw [c184_9]; rfl) (by decide) ?_
                        refine lv_aload_n hx hb dX5_isLine_362 rfl (lv_at hl 0 rfl) ?_
                        refine lv_iload_n hx hb dX5_isLine_363 rfl (lv_at hl 1 rfl) ?_
                        refine mx_wi (mx_runV (As := [.int j177_x1]) (rest := []) hB (c_X5_isPair l E a_t a_storey a_wind a_pair a_text a_read a_now a_image a_isKept a_row a_sight a_ways a_ends a_tried v_storeys v_jacks v_soft v_pairs v_bytes j177_v_position j177_v_tokenAt j177_v_token j177_v_digits j177_v_number j177_v_faultAt v_readMany j177_v_readStoreys j177_v_readPairs v_rows v_sights v_text (upd j177_v_read j177_k1.toNatClampNeg j177_k2) H.size j177_x1 _ hf) sB_X5_isPair sV_X5_isPair wml_X5_143 rfl (mx_pwV hB hP hD [0, 1, 2] (by decide) rfl rfl 5 rfl rfl rfl) hl.1 rfl (Nat.le_of_ble_eq_true rfl) dX5_isLine_364 ⟨Nat.zero_le _, Nat.zero_le _⟩) hP hD hS hA [0, 1, 2] [] 3 rfl (fun u => w_X5_isLine E a_t a_storey a_wind a_pair a_text a_read a_now a_image a_isKept a_row a_sight a_ways a_ends a_tried v_storeys v_jacks v_soft v_pairs v_bytes u.2.2.2.2.2.1 u.2.1 u.2.2.2.2.1 u.2.2.1 u.2.2.2.1 u.2.2.2.2.2.2.1 v_readMany j177_v_readStoreys u.1 v_rows v_sights v_text u.2.2.2.2.2.2.2) (fun _ => rfl) (by decide) (fun _ => rfl) (fun _ => rfl) rfl (fun _ => rfl) (fun r93 u H locs hf hP hD hS => ?_)
                        obtain ⟨u94, u95, u96, u97, u98, u99, u100, u101⟩ := u
                        have hP : va_P E.1 vwCl (w_X5_isLine E a_t a_storey a_wind a_pair a_text a_read a_now a_image a_isKept a_row a_sight a_ways a_ends a_tried v_storeys v_jacks v_soft v_pairs v_bytes u99 u95 u98 u96 u97 u100 v_readMany j177_v_readStoreys u94 v_rows v_sights v_text u101) H := hP
                        have hD : va_D A (w_X5_isLine E a_t a_storey a_wind a_pair a_text a_read a_now a_image a_isKept a_row a_sight a_ways a_ends a_tried v_storeys v_jacks v_soft v_pairs v_bytes u99 u95 u98 u96 u97 u100 v_readMany j177_v_readStoreys u94 v_rows v_sights v_text u101) := hD
                        obtain ⟨h01, hf⟩ := hf
                        exact hRet r93 (u95, u96, u97, u98, u99, u101, u100, u94, j177_v_readStoreys) 367 ls H locs dX5_isLine_367 h01 hf hP hS
                      · have hf := hf.2 c184_9
                        refine lv_tableOut (tgt := 368) hx hb dX5_isLine_184 (mx_out 0 9 [0, 1, 2, 3, 4, 5, 6, 7, 8, 9] (List.forall_mem_cons.mpr ⟨c184_0, (List.forall_mem_cons.mpr ⟨c184_1, (List.forall_mem_cons.mpr ⟨c184_2, (List.forall_mem_cons.mpr ⟨c184_3, (List.forall_mem_cons.mpr ⟨c184_4, (List.forall_mem_cons.mpr ⟨c184_5, (List.forall_mem_cons.mpr ⟨c184_6, (List.forall_mem_cons.mpr ⟨c184_7, (List.forall_mem_cons.mpr ⟨c184_8, (List.forall_mem_cons.mpr ⟨c184_9, (fun _ h => absurd h List.not_mem_nil)⟩)⟩)⟩)⟩)⟩)⟩)⟩)⟩)⟩)⟩) (by decide)) (by decide) ?_
                        refine lv_aload_n hx hb dX5_isLine_368 rfl (lv_at hl 0 rfl) ?_
                        refine mx_wi (mx_runV (As := []) (rest := []) hB (c_X5_fails l E a_t a_storey a_wind a_pair a_text a_read a_now a_image a_isKept a_row a_sight a_ways a_ends a_tried v_storeys v_jacks v_soft v_pairs v_bytes j177_v_position j177_v_tokenAt j177_v_token j177_v_digits j177_v_number j177_v_faultAt v_readMany j177_v_readStoreys j177_v_readPairs v_rows v_sights H.size  _ hf) sB_X5_fails sV_X5_fails wml_X5_103 rfl (mx_pwV hB hP hD [0] (by decide) rfl rfl 5 rfl rfl rfl) hl.1 rfl (Nat.le_of_ble_eq_true rfl) dX5_isLine_369 ⟨Nat.zero_le _, Nat.zero_le _⟩) hP hD hS hA [0] [1, 2] 3 rfl (fun u => w_X5_isLine E a_t a_storey a_wind a_pair a_text a_read a_now a_image a_isKept a_row a_sight a_ways a_ends a_tried v_storeys v_jacks v_soft v_pairs v_bytes j177_v_position j177_v_tokenAt j177_v_token j177_v_digits j177_v_number u v_readMany j177_v_readStoreys j177_v_readPairs v_rows v_sights v_text (upd j177_v_read j177_k1.toNatClampNeg j177_k2)) (fun _ => rfl) (by decide) (fun _ => rfl) (fun _ => rfl) rfl (fun _ => rfl) (fun r102 u H locs hf hP hD hS => ?_)
                        obtain ⟨u103, rfl⟩ : ∃ z, z = u := ⟨_, rfl⟩
                        have hP : va_P E.1 vwCl (w_X5_isLine E a_t a_storey a_wind a_pair a_text a_read a_now a_image a_isKept a_row a_sight a_ways a_ends a_tried v_storeys v_jacks v_soft v_pairs v_bytes j177_v_position j177_v_tokenAt j177_v_token j177_v_digits j177_v_number u103 v_readMany j177_v_readStoreys j177_v_readPairs v_rows v_sights v_text (upd j177_v_read j177_k1.toNatClampNeg j177_k2)) H := hP
                        have hD : va_D A (w_X5_isLine E a_t a_storey a_wind a_pair a_text a_read a_now a_image a_isKept a_row a_sight a_ways a_ends a_tried v_storeys v_jacks v_soft v_pairs v_bytes j177_v_position j177_v_tokenAt j177_v_token j177_v_digits j177_v_number u103 v_readMany j177_v_readStoreys j177_v_readPairs v_rows v_sights v_text (upd j177_v_read j177_k1.toNatClampNeg j177_k2)) := hD
                        obtain ⟨h01, hf⟩ := hf
                        exact hRet r102 (j177_v_tokenAt, j177_v_digits, j177_v_number, j177_v_token, j177_v_position, upd j177_v_read j177_k1.toNatClampNeg j177_k2, u103, j177_v_readPairs, j177_v_readStoreys) 372 ls H locs dX5_isLine_372 h01 hf hP hS
  have J_161 : ∀ (j161_x1 : Int32) (j161_x2 : Int32) (j161_k0 : Int32) (j161_v_tokenAt : Int32) (j161_v_digits : Int32) (j161_v_number : Int32) (j161_v_token : Int64) (j161_v_position : Int32) (j161_v_read : (Nat → Int32)) (j161_v_faultAt : Int32) (j161_v_readPairs : Int32) (j161_v_readStoreys : Int32) (ls : Array Slot) (H : Heap) (locs : List Loc), f_X5_isLine_161 v_bytes v_text post j161_x1 j161_x2 j161_k0 j161_v_tokenAt j161_v_digits j161_v_number j161_v_token j161_v_position j161_v_read j161_v_faultAt j161_v_readPairs j161_v_readStoreys → lv_has ls 4 [(0, .ref a_t), (1, .int j161_x1), (2, .int j161_x2)] → va_P E.1 vwCl (w_X5_isLine E a_t a_storey a_wind a_pair a_text a_read a_now a_image a_isKept a_row a_sight a_ways a_ends a_tried v_storeys v_jacks v_soft v_pairs v_bytes j161_v_position j161_v_tokenAt j161_v_token j161_v_digits j161_v_number j161_v_faultAt v_readMany j161_v_readStoreys j161_v_readPairs v_rows v_sights v_text j161_v_read) H → va_D A (w_X5_isLine E a_t a_storey a_wind a_pair a_text a_read a_now a_image a_isKept a_row a_sight a_ways a_ends a_tried v_storeys v_jacks v_soft v_pairs v_bytes j161_v_position j161_v_tokenAt j161_v_token j161_v_digits j161_v_number j161_v_faultAt v_readMany j161_v_readStoreys j161_v_readPairs v_rows v_sights v_text j161_v_read) → va_S A s.heap H locs → W p l e rm_X5_isLine s m args below meth c H locs 0 0 Q (F0 m 161 ls [.int j161_k0]) := by
    intro j161_x1 j161_x2 j161_k0 j161_v_tokenAt j161_v_digits j161_v_number j161_v_token j161_v_position j161_v_read j161_v_faultAt j161_v_readPairs j161_v_readStoreys ls H locs hf hl hP hD hS
    refine lv_istore_n (lv' := [(3, .int j161_k0), (0, .ref a_t), (1, .int j161_x1), (2, .int j161_x2)]) hx hb dX5_isLine_161 rfl hl (by decide) rfl (fun ls hl => ?_)
    refine lv_aload_n hx hb dX5_isLine_162 rfl (lv_at hl 1 rfl) ?_
    refine gf_X5_29 hB hP 0 rfl rfl dX5_isLine_163 ?_
    refine lv_iload_n hx hb dX5_isLine_166 rfl (lv_at hl 2 rfl) ?_
    refine lv_iload_n hx hb dX5_isLine_167 rfl (lv_at hl 3 rfl) ?_
    refine lv_iconst hx hb dX5_isLine_168 kc_i_m1 ?_
    refine lv_icmp_ne (tgt := 176) hx hb dX5_isLine_169 (by decide) (fun c169 => ?_) (fun c169 => ?_)
    · have hf := hf.1 c169
      refine lv_iload_n hx hb dX5_isLine_176 rfl (lv_at hl 3 rfl) ?_
      exact J_177 j161_x1 j161_x1 j161_x2 j161_v_tokenAt j161_v_digits j161_v_number j161_v_token j161_v_position j161_v_read j161_v_faultAt j161_v_readPairs j161_v_readStoreys ls H locs hf (lv_sub hl [1, 2] rfl) hP hD hS
    · have hf := hf.2 c169
      refine lv_iload_n hx hb dX5_isLine_172 rfl (lv_at hl 0 rfl) ?_
      refine lv_goto (tgt := 177) hx hb dX5_isLine_173 (by decide) ?_
      exact J_177 j161_x1 j161_x1 j161_k0 j161_v_tokenAt j161_v_digits j161_v_number j161_v_token j161_v_position j161_v_read j161_v_faultAt j161_v_readPairs j161_v_readStoreys ls H locs hf (lv_sub hl [1, 2] rfl) hP hD hS
  have J_80 : ∀ (j80_x1 : Int32) (j80_k0 : Int32) (j80_v_tokenAt : Int32) (j80_v_digits : Int32) (j80_v_number : Int32) (j80_v_token : Int64) (j80_v_position : Int32) (j80_v_read : (Nat → Int32)) (j80_v_faultAt : Int32) (j80_v_readPairs : Int32) (j80_v_readStoreys : Int32) (ls : Array Slot) (H : Heap) (locs : List Loc), f_X5_isLine_80 v_bytes v_text post j80_x1 j80_k0 j80_v_tokenAt j80_v_digits j80_v_number j80_v_token j80_v_position j80_v_read j80_v_faultAt j80_v_readPairs j80_v_readStoreys → lv_has ls 4 [(0, .ref a_t), (1, .int j80_x1)] → va_P E.1 vwCl (w_X5_isLine E a_t a_storey a_wind a_pair a_text a_read a_now a_image a_isKept a_row a_sight a_ways a_ends a_tried v_storeys v_jacks v_soft v_pairs v_bytes j80_v_position j80_v_tokenAt j80_v_token j80_v_digits j80_v_number j80_v_faultAt v_readMany j80_v_readStoreys j80_v_readPairs v_rows v_sights v_text j80_v_read) H → va_D A (w_X5_isLine E a_t a_storey a_wind a_pair a_text a_read a_now a_image a_isKept a_row a_sight a_ways a_ends a_tried v_storeys v_jacks v_soft v_pairs v_bytes j80_v_position j80_v_tokenAt j80_v_token j80_v_digits j80_v_number j80_v_faultAt v_readMany j80_v_readStoreys j80_v_readPairs v_rows v_sights v_text j80_v_read) → va_S A s.heap H locs → W p l e rm_X5_isLine s m args below meth c H locs 0 0 Q (F0 m 80 ls [.int j80_k0]) := by
    intro j80_x1 j80_k0 j80_v_tokenAt j80_v_digits j80_v_number j80_v_token j80_v_position j80_v_read j80_v_faultAt j80_v_readPairs j80_v_readStoreys ls H locs hf hl hP hD hS
    refine lv_istore_n (lv' := [(2, .int j80_k0), (0, .ref a_t), (1, .int j80_x1)]) hx hb dX5_isLine_80 rfl hl (by decide) rfl (fun ls hl => ?_)
    refine lv_aload_n hx hb dX5_isLine_81 rfl (lv_at hl 1 rfl) ?_
    refine gf_X5_83 hB hP 0 rfl rfl dX5_isLine_82 ?_
    refine lv_ldc2 hx hb hB.o (hB.w wcl_X5_130) dX5_isLine_85 ?_
    refine W.lcmp hx hb dX5_isLine_88 ?_
    refine lv_if_ne (tgt := 96) hx hb dX5_isLine_89 (by decide) (fun c89 => ?_) (fun c89 => ?_)
    · have hf := hf.1 c89
      refine lv_aload_n hx hb dX5_isLine_96 rfl (lv_at hl 1 rfl) ?_
      refine gf_X5_83 hB hP 0 rfl rfl dX5_isLine_97 ?_
      refine lv_ldc2 hx hb hB.o (hB.w wcl_X5_132) dX5_isLine_100 ?_
      refine W.lcmp hx hb dX5_isLine_103 ?_
      refine lv_if_ne (tgt := 112) hx hb dX5_isLine_104 (by decide) (fun c104 => ?_) (fun c104 => ?_)
      · have hf := hf.1 c104
        refine lv_aload_n hx hb dX5_isLine_112 rfl (lv_at hl 1 rfl) ?_
        refine gf_X5_83 hB hP 0 rfl rfl dX5_isLine_113 ?_
        refine lv_ldc2 hx hb hB.o (hB.w wcl_X5_134) dX5_isLine_116 ?_
        refine W.lcmp hx hb dX5_isLine_119 ?_
        refine lv_if_ne (tgt := 128) hx hb dX5_isLine_120 (by decide) (fun c120 => ?_) (fun c120 => ?_)
        · have hf := hf.1 c120
          refine lv_aload_n hx hb dX5_isLine_128 rfl (lv_at hl 1 rfl) ?_
          refine gf_X5_83 hB hP 0 rfl rfl dX5_isLine_129 ?_
          refine lv_ldc2 hx hb hB.o (hB.w wcl_X5_136) dX5_isLine_132 ?_
          refine W.lcmp hx hb dX5_isLine_135 ?_
          refine lv_if_ne (tgt := 144) hx hb dX5_isLine_136 (by decide) (fun c136 => ?_) (fun c136 => ?_)
          · have hf := hf.1 c136
            refine lv_aload_n hx hb dX5_isLine_144 rfl (lv_at hl 1 rfl) ?_
            refine gf_X5_83 hB hP 0 rfl rfl dX5_isLine_145 ?_
            refine lv_ldc2 hx hb hB.o (hB.w wcl_X5_138) dX5_isLine_148 ?_
            refine W.lcmp hx hb dX5_isLine_151 ?_
            refine lv_if_ne (tgt := 160) hx hb dX5_isLine_152 (by decide) (fun c152 => ?_) (fun c152 => ?_)
            · have hf := hf.1 c152
              refine lv_iconst hx hb dX5_isLine_160 kc_i_m1 ?_
              exact J_161 j80_x1 j80_k0 (-1) j80_v_tokenAt j80_v_digits j80_v_number j80_v_token j80_v_position j80_v_read j80_v_faultAt j80_v_readPairs j80_v_readStoreys ls H locs hf (lv_sub hl [1, 2, 0] rfl) hP hD hS
            · have hf := hf.2 c152
              refine lv_bipush hx hb dX5_isLine_155 kc_b_9 ?_
              refine lv_goto (tgt := 161) hx hb dX5_isLine_157 (by decide) ?_
              exact J_161 j80_x1 j80_k0 9 j80_v_tokenAt j80_v_digits j80_v_number j80_v_token j80_v_position j80_v_read j80_v_faultAt j80_v_readPairs j80_v_readStoreys ls H locs hf (lv_sub hl [1, 2, 0] rfl) hP hD hS
          · have hf := hf.2 c136
            refine lv_bipush hx hb dX5_isLine_139 kc_b_8 ?_
            refine lv_goto (tgt := 161) hx hb dX5_isLine_141 (by decide) ?_
            exact J_161 j80_x1 j80_k0 8 j80_v_tokenAt j80_v_digits j80_v_number j80_v_token j80_v_position j80_v_read j80_v_faultAt j80_v_readPairs j80_v_readStoreys ls H locs hf (lv_sub hl [1, 2, 0] rfl) hP hD hS
        · have hf := hf.2 c120
          refine lv_bipush hx hb dX5_isLine_123 kc_b_7 ?_
          refine lv_goto (tgt := 161) hx hb dX5_isLine_125 (by decide) ?_
          exact J_161 j80_x1 j80_k0 7 j80_v_tokenAt j80_v_digits j80_v_number j80_v_token j80_v_position j80_v_read j80_v_faultAt j80_v_readPairs j80_v_readStoreys ls H locs hf (lv_sub hl [1, 2, 0] rfl) hP hD hS
      · have hf := hf.2 c104
        refine lv_bipush hx hb dX5_isLine_107 kc_b_6 ?_
        refine lv_goto (tgt := 161) hx hb dX5_isLine_109 (by decide) ?_
        exact J_161 j80_x1 j80_k0 6 j80_v_tokenAt j80_v_digits j80_v_number j80_v_token j80_v_position j80_v_read j80_v_faultAt j80_v_readPairs j80_v_readStoreys ls H locs hf (lv_sub hl [1, 2, 0] rfl) hP hD hS
    · have hf := hf.2 c89
      refine lv_iconst hx hb dX5_isLine_92 kc_i_5 ?_
      refine lv_goto (tgt := 161) hx hb dX5_isLine_93 (by decide) ?_
      exact J_161 j80_x1 j80_k0 5 j80_v_tokenAt j80_v_digits j80_v_number j80_v_token j80_v_position j80_v_read j80_v_faultAt j80_v_readPairs j80_v_readStoreys ls H locs hf (lv_sub hl [1, 2, 0] rfl) hP hD hS
  obtain ⟨H, locs, eH, eL⟩ : ∃ (H : Heap) (locs : List Loc), H = s.heap ∧ locs = [] := ⟨_, _, rfl, rfl⟩
  rw [← eH] at hP
  have hS : va_S A s.heap H locs := by rw [eH, eL]; exact hS
  show W p l e rm_X5_isLine s m args below meth c s.heap [] 0 0 Q (F0 m 0 ls [])
  rw [← eH, ← eL]
  refine lv_aload_n hx hb dX5_isLine_0 rfl (lv_at hl 0 rfl) ?_
  refine mx_wv (mx_runV (As := []) (rest := []) hB (c_X5_nextToken l E a_t a_storey a_wind a_pair a_text a_read a_now a_image a_isKept a_row a_sight a_ways a_ends a_tried v_storeys v_jacks v_soft v_pairs v_bytes v_position v_tokenAt v_token v_digits v_number v_faultAt v_readMany v_readStoreys v_readPairs v_rows v_sights v_text H.size  _ hf) sB_X5_nextToken sV_X5_nextToken wml_X5_100 rfl (mx_pwV hB hP hD [0, 1] (by decide) rfl rfl 5 rfl rfl rfl) hl.1 rfl (Nat.le_of_ble_eq_true rfl) dX5_isLine_1 ⟨Nat.zero_le _, Nat.zero_le _⟩) hP hD hS hA [0, 1] [2] 3 rfl (fun u => w_X5_isLine E a_t a_storey a_wind a_pair a_text a_read a_now a_image a_isKept a_row a_sight a_ways a_ends a_tried v_storeys v_jacks v_soft v_pairs v_bytes u.2.2.2.2 u.1 u.2.2.2.1 u.2.1 u.2.2.1 v_faultAt v_readMany v_readStoreys v_readPairs v_rows v_sights v_text v_read) (fun _ => rfl) (by decide) (fun _ => rfl) (fun _ => rfl) rfl (fun _ => rfl) (fun u H locs hf hP hD hS => ?_)
  obtain ⟨u2, u3, u4, u5, u6⟩ := u
  have hP : va_P E.1 vwCl (w_X5_isLine E a_t a_storey a_wind a_pair a_text a_read a_now a_image a_isKept a_row a_sight a_ways a_ends a_tried v_storeys v_jacks v_soft v_pairs v_bytes u6 u2 u5 u3 u4 v_faultAt v_readMany v_readStoreys v_readPairs v_rows v_sights v_text v_read) H := hP
  have hD : va_D A (w_X5_isLine E a_t a_storey a_wind a_pair a_text a_read a_now a_image a_isKept a_row a_sight a_ways a_ends a_tried v_storeys v_jacks v_soft v_pairs v_bytes u6 u2 u5 u3 u4 v_faultAt v_readMany v_readStoreys v_readPairs v_rows v_sights v_text v_read) := hD
  refine lv_aload_n hx hb dX5_isLine_4 rfl (lv_at hl 0 rfl) ?_
  refine gf_X5_83 hB hP 0 rfl rfl dX5_isLine_5 ?_
  refine lv_ldc2 hx hb hB.o (hB.w wcl_X5_120) dX5_isLine_8 ?_
  refine W.lcmp hx hb dX5_isLine_11 ?_
  refine lv_if_ne (tgt := 19) hx hb dX5_isLine_12 (by decide) (fun c12 => ?_) (fun c12 => ?_)
  · have hf := hf.1 c12
    refine lv_aload_n hx hb dX5_isLine_19 rfl (lv_at hl 0 rfl) ?_
    refine gf_X5_83 hB hP 0 rfl rfl dX5_isLine_20 ?_
    refine lv_ldc2 hx hb hB.o (hB.w wcl_X5_122) dX5_isLine_23 ?_
    refine W.lcmp hx hb dX5_isLine_26 ?_
    refine lv_if_ne (tgt := 34) hx hb dX5_isLine_27 (by decide) (fun c27 => ?_) (fun c27 => ?_)
    · have hf := hf.1 c27
      refine lv_aload_n hx hb dX5_isLine_34 rfl (lv_at hl 0 rfl) ?_
      refine gf_X5_83 hB hP 0 rfl rfl dX5_isLine_35 ?_
      refine lv_ldc2 hx hb hB.o (hB.w wcl_X5_124) dX5_isLine_38 ?_
      refine W.lcmp hx hb dX5_isLine_41 ?_
      refine lv_if_ne (tgt := 49) hx hb dX5_isLine_42 (by decide) (fun c42 => ?_) (fun c42 => ?_)
      · have hf := hf.1 c42
        refine lv_aload_n hx hb dX5_isLine_49 rfl (lv_at hl 0 rfl) ?_
        refine gf_X5_83 hB hP 0 rfl rfl dX5_isLine_50 ?_
        refine lv_ldc2 hx hb hB.o (hB.w wcl_X5_126) dX5_isLine_53 ?_
        refine W.lcmp hx hb dX5_isLine_56 ?_
        refine lv_if_ne (tgt := 64) hx hb dX5_isLine_57 (by decide) (fun c57 => ?_) (fun c57 => ?_)
        · have hf := hf.1 c57
          refine lv_aload_n hx hb dX5_isLine_64 rfl (lv_at hl 0 rfl) ?_
          refine gf_X5_83 hB hP 0 rfl rfl dX5_isLine_65 ?_
          refine lv_ldc2 hx hb hB.o (hB.w wcl_X5_128) dX5_isLine_68 ?_
          refine W.lcmp hx hb dX5_isLine_71 ?_
          refine lv_if_ne (tgt := 79) hx hb dX5_isLine_72 (by decide) (fun c72 => ?_) (fun c72 => ?_)
          · have hf := hf.1 c72
            refine lv_iconst hx hb dX5_isLine_79 kc_i_m1 ?_
            exact J_80 x1 (-1) u2 u3 u4 u5 u6 v_read v_faultAt v_readPairs v_readStoreys ls H locs hf (lv_sub hl [0, 1] rfl) hP hD hS
          · have hf := hf.2 c72
            refine lv_iconst hx hb dX5_isLine_75 kc_i_4 ?_
            refine lv_goto (tgt := 80) hx hb dX5_isLine_76 (by decide) ?_
            exact J_80 x1 4 u2 u3 u4 u5 u6 v_read v_faultAt v_readPairs v_readStoreys ls H locs hf (lv_sub hl [0, 1] rfl) hP hD hS
        · have hf := hf.2 c57
          refine lv_iconst hx hb dX5_isLine_60 kc_i_3 ?_
          refine lv_goto (tgt := 80) hx hb dX5_isLine_61 (by decide) ?_
          exact J_80 x1 3 u2 u3 u4 u5 u6 v_read v_faultAt v_readPairs v_readStoreys ls H locs hf (lv_sub hl [0, 1] rfl) hP hD hS
      · have hf := hf.2 c42
        refine lv_iconst hx hb dX5_isLine_45 kc_i_2 ?_
        refine lv_goto (tgt := 80) hx hb dX5_isLine_46 (by decide) ?_
        exact J_80 x1 2 u2 u3 u4 u5 u6 v_read v_faultAt v_readPairs v_readStoreys ls H locs hf (lv_sub hl [0, 1] rfl) hP hD hS
    · have hf := hf.2 c27
      refine lv_iconst hx hb dX5_isLine_30 kc_i_1 ?_
      refine lv_goto (tgt := 80) hx hb dX5_isLine_31 (by decide) ?_
      exact J_80 x1 1 u2 u3 u4 u5 u6 v_read v_faultAt v_readPairs v_readStoreys ls H locs hf (lv_sub hl [0, 1] rfl) hP hD hS
  · have hf := hf.2 c12
    refine lv_iconst hx hb dX5_isLine_15 kc_i_0 ?_
    refine lv_goto (tgt := 80) hx hb dX5_isLine_16 (by decide) ?_
    exact J_80 x1 0 u2 u3 u4 u5 u6 v_read v_faultAt v_readPairs v_readStoreys ls H locs hf (lv_sub hl [0, 1] rfl) hP hD hS
theorem c_X5_isLine (l : Launch) (E : mx_E) (a_t : Nat) (a_storey : Nat) (a_wind : Nat) (a_pair : Nat) (a_text : Nat) (a_read : Nat) (a_now : Nat) (a_image : Nat) (a_isKept : Nat) (a_row : Nat) (a_sight : Nat) (a_ways : Nat) (a_ends : Nat) (a_tried : Nat) (v_storeys : Int32) (v_jacks : Int32) (v_soft : Int32) (v_pairs : Int32) (v_bytes : Int32) (v_position : Int32) (v_tokenAt : Int32) (v_token : Int64) (v_digits : Int32) (v_number : Int32) (v_faultAt : Int32) (v_readMany : Int32) (v_readStoreys : Int32) (v_readPairs : Int32) (v_rows : Int32) (v_sights : Int32) (v_text : (Nat → Int32)) (v_read : (Nat → Int32)) (sz : Nat) (x1 : Int32) (post : Int32 → Int32 → Int32 → Int32 → Int64 → Int32 → (Nat → Int32) → Int32 → Int32 → Int32 → Prop) (hf : f_X5_isLine v_bytes v_text v_tokenAt v_digits v_number v_token v_position v_read v_faultAt v_readPairs v_readStoreys x1 post) : Met l yX5_isLine (Cond.code yX5_isLine cX5_isLine 4 (some .boolean) :: mx_WS) rm_X5_isLine (va_Pc [.ref a_t, .int x1] (mx_Pw E (w_X5_isLine E a_t a_storey a_wind a_pair a_text a_read a_now a_image a_isKept a_row a_sight a_ways a_ends a_tried v_storeys v_jacks v_soft v_pairs v_bytes v_position v_tokenAt v_token v_digits v_number v_faultAt v_readMany v_readStoreys v_readPairs v_rows v_sights v_text v_read) sz)) (va_Qi (fun (v : Int32) (u : Int32 × Int32 × Int32 × Int64 × Int32 × (Nat → Int32) × Int32 × Int32 × Int32) => post v u.1 u.2.1 u.2.2.1 u.2.2.2.1 u.2.2.2.2.1 u.2.2.2.2.2.1 u.2.2.2.2.2.2.1 u.2.2.2.2.2.2.2.1 u.2.2.2.2.2.2.2.2) (fun u t => va_P E.1 vwCl (w_X5_isLine E a_t a_storey a_wind a_pair a_text a_read a_now a_image a_isKept a_row a_sight a_ways a_ends a_tried v_storeys v_jacks v_soft v_pairs v_bytes u.2.2.2.2.1 u.1 u.2.2.2.1 u.2.1 u.2.2.1 u.2.2.2.2.2.2.1 v_readMany u.2.2.2.2.2.2.2.2 u.2.2.2.2.2.2.2.1 v_rows v_sights v_text u.2.2.2.2.2.1) t.heap) (va_A (w_X5_isLine E a_t a_storey a_wind a_pair a_text a_read a_now a_image a_isKept a_row a_sight a_ways a_ends a_tried v_storeys v_jacks v_soft v_pairs v_bytes v_position v_tokenAt v_token v_digits v_number v_faultAt v_readMany v_readStoreys v_readPairs v_rows v_sights v_text v_read) sz)) 0 0 (va_A (w_X5_isLine E a_t a_storey a_wind a_pair a_text a_read a_now a_image a_isKept a_row a_sight a_ways a_ends a_tried v_storeys v_jacks v_soft v_pairs v_bytes v_position v_tokenAt v_token v_digits v_number v_faultAt v_readMany v_readStoreys v_readPairs v_rows v_sights v_text v_read) sz) :=
  mx_metWz (by decide) rfl rfl (fun hB hP hD hA hRet ls hl => b_X5_isLine E a_t a_storey a_wind a_pair a_text a_read a_now a_image a_isKept a_row a_sight a_ways a_ends a_tried v_storeys v_jacks v_soft v_pairs v_bytes v_position v_tokenAt v_token v_digits v_number v_faultAt v_readMany v_readStoreys v_readPairs v_rows v_sights v_text v_read x1 post hB hP hD hA hRet hf ls hl)
def rm_X5_isRead : Room := { frames := 6, cells := 0, slots := 0, locals := 130 }
set_option maxHeartbeats 4000000 in
set_option maxRecDepth 100000 in
theorem b_X5_isRead {p : Program} {l : Launch} {e : Env} {s : State} {m : MethodId} {args : Array Value} {below : List Frame} {meth : Method} {c : Code} {Q : State → Prop} {A : Nat → Prop} (E : mx_E) (a_t : Nat) (a_storey : Nat) (a_wind : Nat) (a_pair : Nat) (a_text : Nat) (a_read : Nat) (a_now : Nat) (a_image : Nat) (a_isKept : Nat) (a_row : Nat) (a_sight : Nat) (a_ways : Nat) (a_ends : Nat) (a_tried : Nat) (v_storeys : Int32) (v_jacks : Int32) (v_soft : Int32) (v_pairs : Int32) (v_bytes : Int32) (v_position : Int32) (v_tokenAt : Int32) (v_token : Int64) (v_digits : Int32) (v_number : Int32) (v_faultAt : Int32) (v_readMany : Int32) (v_readStoreys : Int32) (v_readPairs : Int32) (v_rows : Int32) (v_sights : Int32) (v_text : (Nat → Int32)) (v_read : (Nat → Int32))  (post : Int32 → Int32 → Int32 → Int32 → Int32 → Int32 → Int32 → Int32 → Int32 → Int64 → (Nat → Int32) → Prop) (hB : mx_B p m c cX5_isRead 2 s args RX5 E) (hP : va_P E.1 vwCl (w_X5_isRead E a_t a_storey a_wind a_pair a_text a_read a_now a_image a_isKept a_row a_sight a_ways a_ends a_tried v_storeys v_jacks v_soft v_pairs v_bytes v_position v_tokenAt v_token v_digits v_number v_faultAt v_readMany v_readStoreys v_readPairs v_rows v_sights v_text v_read) s.heap) (hD : va_D A (w_X5_isRead E a_t a_storey a_wind a_pair a_text a_read a_now a_image a_isKept a_row a_sight a_ways a_ends a_tried v_storeys v_jacks v_soft v_pairs v_bytes v_position v_tokenAt v_token v_digits v_number v_faultAt v_readMany v_readStoreys v_readPairs v_rows v_sights v_text v_read)) (hA : ∀ q : Nat, s.heap.size ≤ q → A q) (hRet : ∀ (v : Int32) (u : Int32 × Int32 × Int32 × Int32 × Int32 × Int32 × Int32 × Int32 × Int64 × (Nat → Int32)) (pc : Nat) (ls : Array Slot) (H : Heap) (locs : List Loc), decode cX5_isRead pc = .ok (.ireturn, 1) → (v = 0 ∨ v = 1) → post v u.1 u.2.1 u.2.2.1 u.2.2.2.1 u.2.2.2.2.1 u.2.2.2.2.2.1 u.2.2.2.2.2.2.1 u.2.2.2.2.2.2.2.1 u.2.2.2.2.2.2.2.2.1 u.2.2.2.2.2.2.2.2.2 → va_P E.1 vwCl (w_X5_isRead E a_t a_storey a_wind a_pair a_text a_read a_now a_image a_isKept a_row a_sight a_ways a_ends a_tried v_storeys v_jacks v_soft v_pairs v_bytes u.1 u.2.2.2.2.2.1 u.2.2.2.2.2.2.2.2.1 u.2.2.2.2.2.2.1 u.2.2.2.2.2.2.2.1 u.2.2.2.2.1 u.2.1 u.2.2.1 u.2.2.2.1 v_rows v_sights v_text u.2.2.2.2.2.2.2.2.2) H → va_S A s.heap H locs → W p l e rm_X5_isRead s m args below meth c H locs 0 0 Q (F0 m pc ls [.int v])) (hf : f_X5_isRead v_storeys v_pairs v_bytes v_text v_position v_readMany v_readStoreys v_readPairs v_faultAt v_tokenAt v_digits v_number v_token v_read post) (ls : Array Slot) (hl : lv_has ls 2 [(0, .ref a_t)]) : W p l e rm_X5_isRead s m args below meth c s.heap [] 0 0 Q (F0 m 0 ls []) := by
  have hx := hB.x
  have hb := hB.b
  have hS : va_S A s.heap s.heap [] := va_S.rf
  have J_108 : ∀ (j108_v_position : Int32) (j108_v_readMany : Int32) (j108_v_readStoreys : Int32) (j108_v_readPairs : Int32) (j108_v_faultAt : Int32) (j108_v_tokenAt : Int32) (j108_v_digits : Int32) (j108_v_number : Int32) (j108_v_token : Int64) (j108_v_read : (Nat → Int32)) (ls : Array Slot) (H : Heap) (locs : List Loc), f_X5_isRead_108 v_storeys v_pairs v_bytes v_text post j108_v_position j108_v_readMany j108_v_readStoreys j108_v_readPairs j108_v_faultAt j108_v_tokenAt j108_v_digits j108_v_number j108_v_token j108_v_read → lv_has ls 2 [] → va_P E.1 vwCl (w_X5_isRead E a_t a_storey a_wind a_pair a_text a_read a_now a_image a_isKept a_row a_sight a_ways a_ends a_tried v_storeys v_jacks v_soft v_pairs v_bytes j108_v_position j108_v_tokenAt j108_v_token j108_v_digits j108_v_number j108_v_faultAt j108_v_readMany j108_v_readStoreys j108_v_readPairs v_rows v_sights v_text j108_v_read) H → va_D A (w_X5_isRead E a_t a_storey a_wind a_pair a_text a_read a_now a_image a_isKept a_row a_sight a_ways a_ends a_tried v_storeys v_jacks v_soft v_pairs v_bytes j108_v_position j108_v_tokenAt j108_v_token j108_v_digits j108_v_number j108_v_faultAt j108_v_readMany j108_v_readStoreys j108_v_readPairs v_rows v_sights v_text j108_v_read) → va_S A s.heap H locs → W p l e rm_X5_isRead s m args below meth c H locs 0 0 Q (F0 m 108 ls []) := by
    intro j108_v_position j108_v_readMany j108_v_readStoreys j108_v_readPairs j108_v_faultAt j108_v_tokenAt j108_v_digits j108_v_number j108_v_token j108_v_read ls H locs hf hl hP hD hS
    refine lv_iconst hx hb dX5_isRead_108 kc_i_1 ?_
    refine lv_goto (tgt := 113) hx hb dX5_isRead_109 (by decide) ?_
    exact hRet 1 (j108_v_position, j108_v_readMany, j108_v_readStoreys, j108_v_readPairs, j108_v_faultAt, j108_v_tokenAt, j108_v_digits, j108_v_number, j108_v_token, j108_v_read) 113 ls H locs dX5_isRead_113 (Or.inr rfl) hf hP hS
  have J_90 : ∀ (j90_v_position : Int32) (j90_v_readMany : Int32) (j90_v_readStoreys : Int32) (j90_v_readPairs : Int32) (j90_v_faultAt : Int32) (j90_v_tokenAt : Int32) (j90_v_digits : Int32) (j90_v_number : Int32) (j90_v_token : Int64) (j90_v_read : (Nat → Int32)) (ls : Array Slot) (H : Heap) (locs : List Loc), f_X5_isRead_90 v_storeys v_pairs v_bytes v_text post j90_v_position j90_v_readMany j90_v_readStoreys j90_v_readPairs j90_v_faultAt j90_v_tokenAt j90_v_digits j90_v_number j90_v_token j90_v_read → lv_has ls 2 [(0, .ref a_t)] → va_P E.1 vwCl (w_X5_isRead E a_t a_storey a_wind a_pair a_text a_read a_now a_image a_isKept a_row a_sight a_ways a_ends a_tried v_storeys v_jacks v_soft v_pairs v_bytes j90_v_position j90_v_tokenAt j90_v_token j90_v_digits j90_v_number j90_v_faultAt j90_v_readMany j90_v_readStoreys j90_v_readPairs v_rows v_sights v_text j90_v_read) H → va_D A (w_X5_isRead E a_t a_storey a_wind a_pair a_text a_read a_now a_image a_isKept a_row a_sight a_ways a_ends a_tried v_storeys v_jacks v_soft v_pairs v_bytes j90_v_position j90_v_tokenAt j90_v_token j90_v_digits j90_v_number j90_v_faultAt j90_v_readMany j90_v_readStoreys j90_v_readPairs v_rows v_sights v_text j90_v_read) → va_S A s.heap H locs → W p l e rm_X5_isRead s m args below meth c H locs 0 0 Q (F0 m 90 ls []) := by
    intro j90_v_position j90_v_readMany j90_v_readStoreys j90_v_readPairs j90_v_faultAt j90_v_tokenAt j90_v_digits j90_v_number j90_v_token j90_v_read ls H locs hf hl hP hD hS
    refine lv_aload_n hx hb dX5_isRead_90 rfl (lv_at hl 0 rfl) ?_
    refine gf_X5_83 hB hP 0 rfl rfl dX5_isRead_91 ?_
    refine lv_ldc2 hx hb hB.o (hB.w wcl_X5_81) dX5_isRead_94 ?_
    refine W.lcmp hx hb dX5_isRead_97 ?_
    refine lv_if_eq (tgt := 108) hx hb dX5_isRead_98 (by decide) (fun c98 => ?_) (fun c98 => ?_)
    · have hf := hf.1 c98
      exact J_108 j90_v_position j90_v_readMany j90_v_readStoreys j90_v_readPairs j90_v_faultAt j90_v_tokenAt j90_v_digits j90_v_number j90_v_token j90_v_read ls H locs hf (lv_sub hl [] rfl) hP hD hS
    · have hf := hf.2 c98
      refine lv_aload_n hx hb dX5_isRead_101 rfl (lv_at hl 0 rfl) ?_
      refine mx_wi (mx_runV (As := []) (rest := []) hB (c_X5_fails l E a_t a_storey a_wind a_pair a_text a_read a_now a_image a_isKept a_row a_sight a_ways a_ends a_tried v_storeys v_jacks v_soft v_pairs v_bytes j90_v_position j90_v_tokenAt j90_v_token j90_v_digits j90_v_number j90_v_faultAt j90_v_readMany j90_v_readStoreys j90_v_readPairs v_rows v_sights H.size  _ hf) sB_X5_fails sV_X5_fails wml_X5_103 rfl (mx_pwV hB hP hD [0] (by decide) rfl rfl 5 rfl rfl rfl) hl.1 rfl (Nat.le_of_ble_eq_true rfl) dX5_isRead_102 ⟨Nat.zero_le _, Nat.zero_le _⟩) hP hD hS hA [0] [1, 2] 3 rfl (fun u => w_X5_isRead E a_t a_storey a_wind a_pair a_text a_read a_now a_image a_isKept a_row a_sight a_ways a_ends a_tried v_storeys v_jacks v_soft v_pairs v_bytes j90_v_position j90_v_tokenAt j90_v_token j90_v_digits j90_v_number u j90_v_readMany j90_v_readStoreys j90_v_readPairs v_rows v_sights v_text j90_v_read) (fun _ => rfl) (by decide) (fun _ => rfl) (fun _ => rfl) rfl (fun _ => rfl) (fun r1 u H locs hf hP hD hS => ?_)
      obtain ⟨u2, rfl⟩ : ∃ z, z = u := ⟨_, rfl⟩
      have hP : va_P E.1 vwCl (w_X5_isRead E a_t a_storey a_wind a_pair a_text a_read a_now a_image a_isKept a_row a_sight a_ways a_ends a_tried v_storeys v_jacks v_soft v_pairs v_bytes j90_v_position j90_v_tokenAt j90_v_token j90_v_digits j90_v_number u2 j90_v_readMany j90_v_readStoreys j90_v_readPairs v_rows v_sights v_text j90_v_read) H := hP
      have hD : va_D A (w_X5_isRead E a_t a_storey a_wind a_pair a_text a_read a_now a_image a_isKept a_row a_sight a_ways a_ends a_tried v_storeys v_jacks v_soft v_pairs v_bytes j90_v_position j90_v_tokenAt j90_v_token j90_v_digits j90_v_number u2 j90_v_readMany j90_v_readStoreys j90_v_readPairs v_rows v_sights v_text j90_v_read) := hD
      refine lv_if_eq (tgt := 112) hx hb dX5_isRead_105 (by decide) (fun c105 => ?_) (fun c105 => ?_)
      · have hf := hf.1 c105
        refine lv_iconst hx hb dX5_isRead_112 kc_i_0 ?_
        exact hRet 0 (j90_v_position, j90_v_readMany, j90_v_readStoreys, j90_v_readPairs, u2, j90_v_tokenAt, j90_v_digits, j90_v_number, j90_v_token, j90_v_read) 113 ls H locs dX5_isRead_113 (Or.inl rfl) hf hP hS
      · have hf := hf.2 c105
        exact J_108 j90_v_position j90_v_readMany j90_v_readStoreys j90_v_readPairs u2 j90_v_tokenAt j90_v_digits j90_v_number j90_v_token j90_v_read ls H locs hf (lv_sub hl [] rfl) hP hD hS
  have L_28 : ∀  (n : Nat) (j28_x1 : Int32) (j28_v_position : Int32) (j28_v_readMany : Int32) (j28_v_readStoreys : Int32) (j28_v_readPairs : Int32) (j28_v_faultAt : Int32) (j28_v_tokenAt : Int32) (j28_v_digits : Int32) (j28_v_number : Int32) (j28_v_token : Int64) (j28_v_read : (Nat → Int32)) (ls : Array Slot) (H : Heap) (locs : List Loc), mx_l11 (f_X5_isRead_28 v_storeys v_pairs v_bytes v_text post) n j28_x1 j28_v_position j28_v_readMany j28_v_readStoreys j28_v_readPairs j28_v_faultAt j28_v_tokenAt j28_v_digits j28_v_number j28_v_token j28_v_read → lv_has ls 2 [(0, .ref a_t), (1, .int j28_x1)] → va_P E.1 vwCl (w_X5_isRead E a_t a_storey a_wind a_pair a_text a_read a_now a_image a_isKept a_row a_sight a_ways a_ends a_tried v_storeys v_jacks v_soft v_pairs v_bytes j28_v_position j28_v_tokenAt j28_v_token j28_v_digits j28_v_number j28_v_faultAt j28_v_readMany j28_v_readStoreys j28_v_readPairs v_rows v_sights v_text j28_v_read) H → va_D A (w_X5_isRead E a_t a_storey a_wind a_pair a_text a_read a_now a_image a_isKept a_row a_sight a_ways a_ends a_tried v_storeys v_jacks v_soft v_pairs v_bytes j28_v_position j28_v_tokenAt j28_v_token j28_v_digits j28_v_number j28_v_faultAt j28_v_readMany j28_v_readStoreys j28_v_readPairs v_rows v_sights v_text j28_v_read) → va_S A s.heap H locs → W p l e rm_X5_isRead s m args below meth c H locs 0 0 Q (F0 m 28 ls []) := by
    intro  n_28
    induction n_28 with
    | zero =>
      intro j28_x1 j28_v_position j28_v_readMany j28_v_readStoreys j28_v_readPairs j28_v_faultAt j28_v_tokenAt j28_v_digits j28_v_number j28_v_token j28_v_read ls H locs hf hl hP hD hS
      exact False.elim hf
    | succ n_28 ih_28 =>
      intro j28_x1 j28_v_position j28_v_readMany j28_v_readStoreys j28_v_readPairs j28_v_faultAt j28_v_tokenAt j28_v_digits j28_v_number j28_v_token j28_v_read ls H locs hf hl hP hD hS
      replace hf : f_X5_isRead_28 v_storeys v_pairs v_bytes v_text post (mx_l11 (f_X5_isRead_28 v_storeys v_pairs v_bytes v_text post) n_28) j28_x1 j28_v_position j28_v_readMany j28_v_readStoreys j28_v_readPairs j28_v_faultAt j28_v_tokenAt j28_v_digits j28_v_number j28_v_token j28_v_read := hf
      refine lv_iload_n hx hb dX5_isRead_28 rfl (lv_at hl 1 rfl) ?_
      refine lv_if_eq (tgt := 90) hx hb dX5_isRead_29 (by decide) (fun c29 => ?_) (fun c29 => ?_)
      · have hf := hf.1 c29
        exact J_90 j28_v_position j28_v_readMany j28_v_readStoreys j28_v_readPairs j28_v_faultAt j28_v_tokenAt j28_v_digits j28_v_number j28_v_token j28_v_read ls H locs hf (lv_sub hl [0] rfl) hP hD hS
      · have hf := hf.2 c29
        refine lv_aload_n hx hb dX5_isRead_32 rfl (lv_at hl 0 rfl) ?_
        refine lv_iconst hx hb dX5_isRead_33 kc_i_5 ?_
        refine lv_aload_n hx hb dX5_isRead_34 rfl (lv_at hl 0 rfl) ?_
        refine gf_X5_146 hB hP 0 rfl rfl dX5_isRead_35 ?_
        refine lv_imul hx hb dX5_isRead_38 ?_
        refine mx_wi (mx_runV (As := [.int (5 * j28_v_readMany)]) (rest := []) hB (c_X5_isLine l E a_t a_storey a_wind a_pair a_text a_read a_now a_image a_isKept a_row a_sight a_ways a_ends a_tried v_storeys v_jacks v_soft v_pairs v_bytes j28_v_position j28_v_tokenAt j28_v_token j28_v_digits j28_v_number j28_v_faultAt j28_v_readMany j28_v_readStoreys j28_v_readPairs v_rows v_sights v_text j28_v_read H.size (5 * j28_v_readMany) _ hf) sB_X5_isLine sV_X5_isLine wml_X5_152 rfl (mx_pwV hB hP hD [0, 1, 2] (by decide) rfl rfl 5 rfl rfl rfl) hl.1 rfl (Nat.le_of_ble_eq_true rfl) dX5_isRead_39 ⟨Nat.zero_le _, Nat.zero_le _⟩) hP hD hS hA [0, 1, 2] [] 3 rfl (fun u => w_X5_isRead E a_t a_storey a_wind a_pair a_text a_read a_now a_image a_isKept a_row a_sight a_ways a_ends a_tried v_storeys v_jacks v_soft v_pairs v_bytes u.2.2.2.2.1 u.1 u.2.2.2.1 u.2.1 u.2.2.1 u.2.2.2.2.2.2.1 j28_v_readMany u.2.2.2.2.2.2.2.2 u.2.2.2.2.2.2.2.1 v_rows v_sights v_text u.2.2.2.2.2.1) (fun _ => rfl) (by decide) (fun _ => rfl) (fun _ => rfl) rfl (fun _ => rfl) (fun r1 u H locs hf hP hD hS => ?_)
        obtain ⟨u2, u3, u4, u5, u6, u7, u8, u9, u10⟩ := u
        have hP : va_P E.1 vwCl (w_X5_isRead E a_t a_storey a_wind a_pair a_text a_read a_now a_image a_isKept a_row a_sight a_ways a_ends a_tried v_storeys v_jacks v_soft v_pairs v_bytes u6 u2 u5 u3 u4 u8 j28_v_readMany u10 u9 v_rows v_sights v_text u7) H := hP
        have hD : va_D A (w_X5_isRead E a_t a_storey a_wind a_pair a_text a_read a_now a_image a_isKept a_row a_sight a_ways a_ends a_tried v_storeys v_jacks v_soft v_pairs v_bytes u6 u2 u5 u3 u4 u8 j28_v_readMany u10 u9 v_rows v_sights v_text u7) := hD
        refine lv_if_ne (tgt := 47) hx hb dX5_isRead_42 (by decide) (fun c42 => ?_) (fun c42 => ?_)
        · have hf := hf.1 c42
          refine lv_aload_n hx hb dX5_isRead_47 rfl (lv_at hl 0 rfl) ?_
          refine lv_dup hx hb dX5_isRead_48 rfl ?_
          refine gf_X5_146 hB hP 0 rfl rfl dX5_isRead_49 ?_
          refine lv_iconst hx hb dX5_isRead_52 kc_i_1 ?_
          refine lv_iadd hx hb dX5_isRead_53 ?_
          refine pf_X5_146 hB hP hD hS 0 rfl (Nat.le_of_ble_eq_true rfl) dX5_isRead_54 (w_X5_isRead E a_t a_storey a_wind a_pair a_text a_read a_now a_image a_isKept a_row a_sight a_ways a_ends a_tried v_storeys v_jacks v_soft v_pairs v_bytes u6 u2 u5 u3 u4 u8 (j28_v_readMany + 1) u10 u9 v_rows v_sights v_text u7) rfl (fun H locs hP hD hS => ?_)
          refine lv_aload_n hx hb dX5_isRead_57 rfl (lv_at hl 0 rfl) ?_
          refine mx_wv (mx_runV (As := []) (rest := []) hB (c_X5_nextToken l E a_t a_storey a_wind a_pair a_text a_read a_now a_image a_isKept a_row a_sight a_ways a_ends a_tried v_storeys v_jacks v_soft v_pairs v_bytes u6 u2 u5 u3 u4 u8 (j28_v_readMany + 1) u10 u9 v_rows v_sights v_text H.size  _ hf) sB_X5_nextToken sV_X5_nextToken wml_X5_100 rfl (mx_pwV hB hP hD [0, 1] (by decide) rfl rfl 5 rfl rfl rfl) hl.1 rfl (Nat.le_of_ble_eq_true rfl) dX5_isRead_58 ⟨Nat.zero_le _, Nat.zero_le _⟩) hP hD hS hA [0, 1] [2] 3 rfl (fun u => w_X5_isRead E a_t a_storey a_wind a_pair a_text a_read a_now a_image a_isKept a_row a_sight a_ways a_ends a_tried v_storeys v_jacks v_soft v_pairs v_bytes u.2.2.2.2 u.1 u.2.2.2.1 u.2.1 u.2.2.1 u8 (j28_v_readMany + 1) u10 u9 v_rows v_sights v_text u7) (fun _ => rfl) (by decide) (fun _ => rfl) (fun _ => rfl) rfl (fun _ => rfl) (fun u H locs hf hP hD hS => ?_)
          obtain ⟨u12, u13, u14, u15, u16⟩ := u
          have hP : va_P E.1 vwCl (w_X5_isRead E a_t a_storey a_wind a_pair a_text a_read a_now a_image a_isKept a_row a_sight a_ways a_ends a_tried v_storeys v_jacks v_soft v_pairs v_bytes u16 u12 u15 u13 u14 u8 (j28_v_readMany + 1) u10 u9 v_rows v_sights v_text u7) H := hP
          have hD : va_D A (w_X5_isRead E a_t a_storey a_wind a_pair a_text a_read a_now a_image a_isKept a_row a_sight a_ways a_ends a_tried v_storeys v_jacks v_soft v_pairs v_bytes u16 u12 u15 u13 u14 u8 (j28_v_readMany + 1) u10 u9 v_rows v_sights v_text u7) := hD
          refine lv_aload_n hx hb dX5_isRead_61 rfl (lv_at hl 0 rfl) ?_
          refine gf_X5_83 hB hP 0 rfl rfl dX5_isRead_62 ?_
          refine lv_ldc2 hx hb hB.o (hB.w wcl_X5_95) dX5_isRead_65 ?_
          refine W.lcmp hx hb dX5_isRead_68 ?_
          refine lv_if_ne (tgt := 85) hx hb dX5_isRead_69 (by decide) (fun c69 => ?_) (fun c69 => ?_)
          · have hf := hf.1 c69
            refine lv_iconst hx hb dX5_isRead_85 kc_i_0 ?_
            refine lv_istore_n (lv' := [(1, .int 0), (0, .ref a_t)]) hx hb dX5_isRead_86 rfl hl (by decide) rfl (fun ls hl => ?_)
            refine lv_goto (tgt := 28) hx hb dX5_isRead_87 (by decide) ?_
            exact ih_28 0 u16 (j28_v_readMany + 1) u10 u9 u8 u12 u13 u14 u15 u7 ls H locs hf (lv_sub hl [1, 0] rfl) hP hD hS
          · have hf := hf.2 c69
            refine lv_aload_n hx hb dX5_isRead_72 rfl (lv_at hl 0 rfl) ?_
            refine gf_X5_146 hB hP 0 rfl rfl dX5_isRead_73 ?_
            refine lv_bipush hx hb dX5_isRead_76 kc_b_12 ?_
            refine lv_icmp_ge (tgt := 85) hx hb dX5_isRead_78 (by decide) (fun c78 => ?_) (fun c78 => ?_)
            · have hf := hf.1 c78
              refine lv_iconst hx hb dX5_isRead_85 kc_i_0 ?_
              refine lv_istore_n (lv' := [(1, .int 0), (0, .ref a_t)]) hx hb dX5_isRead_86 rfl hl (by decide) rfl (fun ls hl => ?_)
              refine lv_goto (tgt := 28) hx hb dX5_isRead_87 (by decide) ?_
              exact ih_28 0 u16 (j28_v_readMany + 1) u10 u9 u8 u12 u13 u14 u15 u7 ls H locs hf (lv_sub hl [1, 0] rfl) hP hD hS
            · have hf := hf.2 c78
              refine lv_iconst hx hb dX5_isRead_81 kc_i_1 ?_
              refine lv_goto (tgt := 86) hx hb dX5_isRead_82 (by decide) ?_
              refine lv_istore_n (lv' := [(1, .int 1), (0, .ref a_t)]) hx hb dX5_isRead_86 rfl hl (by decide) rfl (fun ls hl => ?_)
              refine lv_goto (tgt := 28) hx hb dX5_isRead_87 (by decide) ?_
              exact ih_28 1 u16 (j28_v_readMany + 1) u10 u9 u8 u12 u13 u14 u15 u7 ls H locs hf (lv_sub hl [1, 0] rfl) hP hD hS
        · have hf := hf.2 c42
          refine lv_iconst hx hb dX5_isRead_45 kc_i_0 ?_
          exact hRet 0 (u6, j28_v_readMany, u10, u9, u8, u2, u3, u4, u5, u7) 46 ls H locs dX5_isRead_46 (Or.inl rfl) hf hP hS
  obtain ⟨H, locs, eH, eL⟩ : ∃ (H : Heap) (locs : List Loc), H = s.heap ∧ locs = [] := ⟨_, _, rfl, rfl⟩
  rw [← eH] at hP
  have hS : va_S A s.heap H locs := by rw [eH, eL]; exact hS
  show W p l e rm_X5_isRead s m args below meth c s.heap [] 0 0 Q (F0 m 0 ls [])
  rw [← eH, ← eL]
  refine lv_aload_n hx hb dX5_isRead_0 rfl (lv_at hl 0 rfl) ?_
  refine lv_iconst hx hb dX5_isRead_1 kc_i_0 ?_
  refine pf_X5_69 hB hP hD hS 0 rfl (Nat.le_of_ble_eq_true rfl) dX5_isRead_2 (w_X5_isRead E a_t a_storey a_wind a_pair a_text a_read a_now a_image a_isKept a_row a_sight a_ways a_ends a_tried v_storeys v_jacks v_soft v_pairs v_bytes 0 v_tokenAt v_token v_digits v_number v_faultAt v_readMany v_readStoreys v_readPairs v_rows v_sights v_text v_read) rfl (fun H locs hP hD hS => ?_)
  refine lv_aload_n hx hb dX5_isRead_5 rfl (lv_at hl 0 rfl) ?_
  refine lv_iconst hx hb dX5_isRead_6 kc_i_0 ?_
  refine pf_X5_146 hB hP hD hS 0 rfl (Nat.le_of_ble_eq_true rfl) dX5_isRead_7 (w_X5_isRead E a_t a_storey a_wind a_pair a_text a_read a_now a_image a_isKept a_row a_sight a_ways a_ends a_tried v_storeys v_jacks v_soft v_pairs v_bytes 0 v_tokenAt v_token v_digits v_number v_faultAt 0 v_readStoreys v_readPairs v_rows v_sights v_text v_read) rfl (fun H locs hP hD hS => ?_)
  refine lv_aload_n hx hb dX5_isRead_10 rfl (lv_at hl 0 rfl) ?_
  refine lv_aload_n hx hb dX5_isRead_11 rfl (lv_at hl 0 rfl) ?_
  refine gf_X5_57 hB hP 0 rfl rfl dX5_isRead_12 ?_
  refine pf_X5_107 hB hP hD hS 0 rfl (Nat.le_of_ble_eq_true rfl) dX5_isRead_15 (w_X5_isRead E a_t a_storey a_wind a_pair a_text a_read a_now a_image a_isKept a_row a_sight a_ways a_ends a_tried v_storeys v_jacks v_soft v_pairs v_bytes 0 v_tokenAt v_token v_digits v_number v_faultAt 0 v_storeys v_readPairs v_rows v_sights v_text v_read) rfl (fun H locs hP hD hS => ?_)
  refine lv_aload_n hx hb dX5_isRead_18 rfl (lv_at hl 0 rfl) ?_
  refine lv_aload_n hx hb dX5_isRead_19 rfl (lv_at hl 0 rfl) ?_
  refine gf_X5_149 hB hP 0 rfl rfl dX5_isRead_20 ?_
  refine pf_X5_113 hB hP hD hS 0 rfl (Nat.le_of_ble_eq_true rfl) dX5_isRead_23 (w_X5_isRead E a_t a_storey a_wind a_pair a_text a_read a_now a_image a_isKept a_row a_sight a_ways a_ends a_tried v_storeys v_jacks v_soft v_pairs v_bytes 0 v_tokenAt v_token v_digits v_number v_faultAt 0 v_storeys v_pairs v_rows v_sights v_text v_read) rfl (fun H locs hP hD hS => ?_)
  refine lv_iconst hx hb dX5_isRead_26 kc_i_1 ?_
  refine lv_istore_n (lv' := [(1, .int 1), (0, .ref a_t)]) hx hb dX5_isRead_27 rfl hl (by decide) rfl (fun ls hl => ?_)
  obtain ⟨n9, hf⟩ := hf
  exact L_28  n9 1 0 0 v_storeys v_pairs v_faultAt v_tokenAt v_digits v_number v_token v_read ls H locs hf (lv_sub hl [1, 0] rfl) hP hD hS
theorem c_X5_isRead (l : Launch) (E : mx_E) (a_t : Nat) (a_storey : Nat) (a_wind : Nat) (a_pair : Nat) (a_text : Nat) (a_read : Nat) (a_now : Nat) (a_image : Nat) (a_isKept : Nat) (a_row : Nat) (a_sight : Nat) (a_ways : Nat) (a_ends : Nat) (a_tried : Nat) (v_storeys : Int32) (v_jacks : Int32) (v_soft : Int32) (v_pairs : Int32) (v_bytes : Int32) (v_position : Int32) (v_tokenAt : Int32) (v_token : Int64) (v_digits : Int32) (v_number : Int32) (v_faultAt : Int32) (v_readMany : Int32) (v_readStoreys : Int32) (v_readPairs : Int32) (v_rows : Int32) (v_sights : Int32) (v_text : (Nat → Int32)) (v_read : (Nat → Int32)) (sz : Nat)  (post : Int32 → Int32 → Int32 → Int32 → Int32 → Int32 → Int32 → Int32 → Int32 → Int64 → (Nat → Int32) → Prop) (hf : f_X5_isRead v_storeys v_pairs v_bytes v_text v_position v_readMany v_readStoreys v_readPairs v_faultAt v_tokenAt v_digits v_number v_token v_read post) : Met l yX5_isRead (Cond.code yX5_isRead cX5_isRead 2 (some .boolean) :: mx_WS) rm_X5_isRead (va_Pc [.ref a_t] (mx_Pw E (w_X5_isRead E a_t a_storey a_wind a_pair a_text a_read a_now a_image a_isKept a_row a_sight a_ways a_ends a_tried v_storeys v_jacks v_soft v_pairs v_bytes v_position v_tokenAt v_token v_digits v_number v_faultAt v_readMany v_readStoreys v_readPairs v_rows v_sights v_text v_read) sz)) (va_Qi (fun (v : Int32) (u : Int32 × Int32 × Int32 × Int32 × Int32 × Int32 × Int32 × Int32 × Int64 × (Nat → Int32)) => post v u.1 u.2.1 u.2.2.1 u.2.2.2.1 u.2.2.2.2.1 u.2.2.2.2.2.1 u.2.2.2.2.2.2.1 u.2.2.2.2.2.2.2.1 u.2.2.2.2.2.2.2.2.1 u.2.2.2.2.2.2.2.2.2) (fun u t => va_P E.1 vwCl (w_X5_isRead E a_t a_storey a_wind a_pair a_text a_read a_now a_image a_isKept a_row a_sight a_ways a_ends a_tried v_storeys v_jacks v_soft v_pairs v_bytes u.1 u.2.2.2.2.2.1 u.2.2.2.2.2.2.2.2.1 u.2.2.2.2.2.2.1 u.2.2.2.2.2.2.2.1 u.2.2.2.2.1 u.2.1 u.2.2.1 u.2.2.2.1 v_rows v_sights v_text u.2.2.2.2.2.2.2.2.2) t.heap) (va_A (w_X5_isRead E a_t a_storey a_wind a_pair a_text a_read a_now a_image a_isKept a_row a_sight a_ways a_ends a_tried v_storeys v_jacks v_soft v_pairs v_bytes v_position v_tokenAt v_token v_digits v_number v_faultAt v_readMany v_readStoreys v_readPairs v_rows v_sights v_text v_read) sz)) 0 0 (va_A (w_X5_isRead E a_t a_storey a_wind a_pair a_text a_read a_now a_image a_isKept a_row a_sight a_ways a_ends a_tried v_storeys v_jacks v_soft v_pairs v_bytes v_position v_tokenAt v_token v_digits v_number v_faultAt v_readMany v_readStoreys v_readPairs v_rows v_sights v_text v_read) sz) :=
  mx_metWz (by decide) rfl rfl (fun hB hP hD hA hRet ls hl => b_X5_isRead E a_t a_storey a_wind a_pair a_text a_read a_now a_image a_isKept a_row a_sight a_ways a_ends a_tried v_storeys v_jacks v_soft v_pairs v_bytes v_position v_tokenAt v_token v_digits v_number v_faultAt v_readMany v_readStoreys v_readPairs v_rows v_sights v_text v_read  post hB hP hD hA hRet hf ls hl)
def rm_X5_fault : Room := { frames := 7, cells := 0, slots := 0, locals := 151 }
set_option maxHeartbeats 4000000 in
set_option maxRecDepth 100000 in
theorem b_X5_fault {p : Program} {l : Launch} {e : Env} {s : State} {m : MethodId} {args : Array Value} {below : List Frame} {meth : Method} {c : Code} {Q : State → Prop} {A : Nat → Prop} (E : mx_E) (a_t : Nat) (a_storey : Nat) (a_wind : Nat) (a_pair : Nat) (a_text : Nat) (a_read : Nat) (a_now : Nat) (a_image : Nat) (a_isKept : Nat) (a_row : Nat) (a_sight : Nat) (a_ways : Nat) (a_ends : Nat) (a_tried : Nat) (v_storeys : Int32) (v_jacks : Int32) (v_soft : Int32) (v_pairs : Int32) (v_bytes : Int32) (v_position : Int32) (v_tokenAt : Int32) (v_token : Int64) (v_digits : Int32) (v_number : Int32) (v_faultAt : Int32) (v_readMany : Int32) (v_readStoreys : Int32) (v_readPairs : Int32) (v_rows : Int32) (v_sights : Int32) (v_text : (Nat → Int32)) (v_read : (Nat → Int32))  (post : Int32 → Int32 → Int32 → Int32 → Int32 → Int32 → Int32 → Int32 → Int32 → Int64 → (Nat → Int32) → Prop) (hB : mx_B p m c cX5_fault 1 s args RX5 E) (hP : va_P E.1 vwCl (w_X5_fault E a_t a_storey a_wind a_pair a_text a_read a_now a_image a_isKept a_row a_sight a_ways a_ends a_tried v_storeys v_jacks v_soft v_pairs v_bytes v_position v_tokenAt v_token v_digits v_number v_faultAt v_readMany v_readStoreys v_readPairs v_rows v_sights v_text v_read) s.heap) (hD : va_D A (w_X5_fault E a_t a_storey a_wind a_pair a_text a_read a_now a_image a_isKept a_row a_sight a_ways a_ends a_tried v_storeys v_jacks v_soft v_pairs v_bytes v_position v_tokenAt v_token v_digits v_number v_faultAt v_readMany v_readStoreys v_readPairs v_rows v_sights v_text v_read)) (hA : ∀ q : Nat, s.heap.size ≤ q → A q) (hRet : ∀ (v : Int32) (u : Int32 × Int32 × Int32 × Int32 × Int32 × Int32 × Int32 × Int32 × Int64 × (Nat → Int32)) (pc : Nat) (ls : Array Slot) (H : Heap) (locs : List Loc), decode cX5_fault pc = .ok (.ireturn, 1) → post v u.1 u.2.1 u.2.2.1 u.2.2.2.1 u.2.2.2.2.1 u.2.2.2.2.2.1 u.2.2.2.2.2.2.1 u.2.2.2.2.2.2.2.1 u.2.2.2.2.2.2.2.2.1 u.2.2.2.2.2.2.2.2.2 → va_P E.1 vwCl (w_X5_fault E a_t a_storey a_wind a_pair a_text a_read a_now a_image a_isKept a_row a_sight a_ways a_ends a_tried v_storeys v_jacks v_soft v_pairs v_bytes u.1 u.2.2.2.2.2.1 u.2.2.2.2.2.2.2.2.1 u.2.2.2.2.2.2.1 u.2.2.2.2.2.2.2.1 u.2.2.2.2.1 u.2.1 u.2.2.1 u.2.2.2.1 v_rows v_sights v_text u.2.2.2.2.2.2.2.2.2) H → va_S A s.heap H locs → W p l e rm_X5_fault s m args below meth c H locs 0 0 Q (F0 m pc ls [.int v])) (hf : f_X5_fault v_storeys v_pairs v_bytes v_text v_position v_readMany v_readStoreys v_readPairs v_faultAt v_tokenAt v_digits v_number v_token v_read post) (ls : Array Slot) (hl : lv_has ls 1 [(0, .ref a_t)]) : W p l e rm_X5_fault s m args below meth c s.heap [] 0 0 Q (F0 m 0 ls []) := by
  have hx := hB.x
  have hb := hB.b
  have hS : va_S A s.heap s.heap [] := va_S.rf
  obtain ⟨H, locs, eH, eL⟩ : ∃ (H : Heap) (locs : List Loc), H = s.heap ∧ locs = [] := ⟨_, _, rfl, rfl⟩
  rw [← eH] at hP
  have hS : va_S A s.heap H locs := by rw [eH, eL]; exact hS
  show W p l e rm_X5_fault s m args below meth c s.heap [] 0 0 Q (F0 m 0 ls [])
  rw [← eH, ← eL]
  refine lv_aload_n hx hb dX5_fault_0 rfl (lv_at hl 0 rfl) ?_
  refine mx_wi (mx_runV (As := []) (rest := []) hB (c_X5_isRead l E a_t a_storey a_wind a_pair a_text a_read a_now a_image a_isKept a_row a_sight a_ways a_ends a_tried v_storeys v_jacks v_soft v_pairs v_bytes v_position v_tokenAt v_token v_digits v_number v_faultAt v_readMany v_readStoreys v_readPairs v_rows v_sights v_text v_read H.size  _ hf) sB_X5_isRead sV_X5_isRead wml_X5_155 rfl (mx_pwV hB hP hD [0, 1, 2] (by decide) rfl rfl 5 rfl rfl rfl) hl.1 rfl (Nat.le_of_ble_eq_true rfl) dX5_fault_1 ⟨Nat.zero_le _, Nat.zero_le _⟩) hP hD hS hA [0, 1, 2] [] 3 rfl (fun u => w_X5_fault E a_t a_storey a_wind a_pair a_text a_read a_now a_image a_isKept a_row a_sight a_ways a_ends a_tried v_storeys v_jacks v_soft v_pairs v_bytes u.1 u.2.2.2.2.2.1 u.2.2.2.2.2.2.2.2.1 u.2.2.2.2.2.2.1 u.2.2.2.2.2.2.2.1 u.2.2.2.2.1 u.2.1 u.2.2.1 u.2.2.2.1 v_rows v_sights v_text u.2.2.2.2.2.2.2.2.2) (fun _ => rfl) (by decide) (fun _ => rfl) (fun _ => rfl) rfl (fun _ => rfl) (fun r1 u H locs hf hP hD hS => ?_)
  obtain ⟨u2, u3, u4, u5, u6, u7, u8, u9, u10, u11⟩ := u
  have hP : va_P E.1 vwCl (w_X5_fault E a_t a_storey a_wind a_pair a_text a_read a_now a_image a_isKept a_row a_sight a_ways a_ends a_tried v_storeys v_jacks v_soft v_pairs v_bytes u2 u7 u10 u8 u9 u6 u3 u4 u5 v_rows v_sights v_text u11) H := hP
  have hD : va_D A (w_X5_fault E a_t a_storey a_wind a_pair a_text a_read a_now a_image a_isKept a_row a_sight a_ways a_ends a_tried v_storeys v_jacks v_soft v_pairs v_bytes u2 u7 u10 u8 u9 u6 u3 u4 u5 v_rows v_sights v_text u11) := hD
  refine lv_if_eq (tgt := 11) hx hb dX5_fault_4 (by decide) (fun c4 => ?_) (fun c4 => ?_)
  · have hf := hf.1 c4
    refine lv_aload_n hx hb dX5_fault_11 rfl (lv_at hl 0 rfl) ?_
    refine gf_X5_97 hB hP 0 rfl rfl dX5_fault_12 ?_
    exact hRet u6 (u2, u3, u4, u5, u6, u7, u8, u9, u10, u11) 15 ls H locs dX5_fault_15 hf hP hS
  · have hf := hf.2 c4
    refine lv_iconst hx hb dX5_fault_7 kc_i_m1 ?_
    refine lv_goto (tgt := 15) hx hb dX5_fault_8 (by decide) ?_
    exact hRet (-1) (u2, u3, u4, u5, u6, u7, u8, u9, u10, u11) 15 ls H locs dX5_fault_15 hf hP hS
theorem c_X5_fault (l : Launch) (E : mx_E) (a_t : Nat) (a_storey : Nat) (a_wind : Nat) (a_pair : Nat) (a_text : Nat) (a_read : Nat) (a_now : Nat) (a_image : Nat) (a_isKept : Nat) (a_row : Nat) (a_sight : Nat) (a_ways : Nat) (a_ends : Nat) (a_tried : Nat) (v_storeys : Int32) (v_jacks : Int32) (v_soft : Int32) (v_pairs : Int32) (v_bytes : Int32) (v_position : Int32) (v_tokenAt : Int32) (v_token : Int64) (v_digits : Int32) (v_number : Int32) (v_faultAt : Int32) (v_readMany : Int32) (v_readStoreys : Int32) (v_readPairs : Int32) (v_rows : Int32) (v_sights : Int32) (v_text : (Nat → Int32)) (v_read : (Nat → Int32)) (sz : Nat)  (post : Int32 → Int32 → Int32 → Int32 → Int32 → Int32 → Int32 → Int32 → Int32 → Int64 → (Nat → Int32) → Prop) (hf : f_X5_fault v_storeys v_pairs v_bytes v_text v_position v_readMany v_readStoreys v_readPairs v_faultAt v_tokenAt v_digits v_number v_token v_read post) : Met l yX5_fault (Cond.code yX5_fault cX5_fault 1 (some .int) :: mx_WS) rm_X5_fault (va_Pc [.ref a_t] (mx_Pw E (w_X5_fault E a_t a_storey a_wind a_pair a_text a_read a_now a_image a_isKept a_row a_sight a_ways a_ends a_tried v_storeys v_jacks v_soft v_pairs v_bytes v_position v_tokenAt v_token v_digits v_number v_faultAt v_readMany v_readStoreys v_readPairs v_rows v_sights v_text v_read) sz)) (va_Qi (fun (v : Int32) (u : Int32 × Int32 × Int32 × Int32 × Int32 × Int32 × Int32 × Int32 × Int64 × (Nat → Int32)) => post v u.1 u.2.1 u.2.2.1 u.2.2.2.1 u.2.2.2.2.1 u.2.2.2.2.2.1 u.2.2.2.2.2.2.1 u.2.2.2.2.2.2.2.1 u.2.2.2.2.2.2.2.2.1 u.2.2.2.2.2.2.2.2.2) (fun u t => va_P E.1 vwCl (w_X5_fault E a_t a_storey a_wind a_pair a_text a_read a_now a_image a_isKept a_row a_sight a_ways a_ends a_tried v_storeys v_jacks v_soft v_pairs v_bytes u.1 u.2.2.2.2.2.1 u.2.2.2.2.2.2.2.2.1 u.2.2.2.2.2.2.1 u.2.2.2.2.2.2.2.1 u.2.2.2.2.1 u.2.1 u.2.2.1 u.2.2.2.1 v_rows v_sights v_text u.2.2.2.2.2.2.2.2.2) t.heap) (va_A (w_X5_fault E a_t a_storey a_wind a_pair a_text a_read a_now a_image a_isKept a_row a_sight a_ways a_ends a_tried v_storeys v_jacks v_soft v_pairs v_bytes v_position v_tokenAt v_token v_digits v_number v_faultAt v_readMany v_readStoreys v_readPairs v_rows v_sights v_text v_read) sz)) 0 0 (va_A (w_X5_fault E a_t a_storey a_wind a_pair a_text a_read a_now a_image a_isKept a_row a_sight a_ways a_ends a_tried v_storeys v_jacks v_soft v_pairs v_bytes v_position v_tokenAt v_token v_digits v_number v_faultAt v_readMany v_readStoreys v_readPairs v_rows v_sights v_text v_read) sz) :=
  mx_metWi (by decide) rfl rfl (fun hB hP hD hA hRet ls hl => b_X5_fault E a_t a_storey a_wind a_pair a_text a_read a_now a_image a_isKept a_row a_sight a_ways a_ends a_tried v_storeys v_jacks v_soft v_pairs v_bytes v_position v_tokenAt v_token v_digits v_number v_faultAt v_readMany v_readStoreys v_readPairs v_rows v_sights v_text v_read  post hB hP hD hA hRet hf ls hl)
def rm_X5_putWind : Room := { frames := 0, cells := 0, slots := 0, locals := 0 }
set_option maxHeartbeats 4000000 in
set_option maxRecDepth 100000 in
theorem b_X5_putWind {p : Program} {l : Launch} {e : Env} {s : State} {m : MethodId} {args : Array Value} {below : List Frame} {meth : Method} {c : Code} {Q : State → Prop} {A : Nat → Prop} (E : mx_E) (a_t : Nat) (a_storey : Nat) (a_wind : Nat) (a_pair : Nat) (a_text : Nat) (a_read : Nat) (a_now : Nat) (a_image : Nat) (a_isKept : Nat) (a_row : Nat) (a_sight : Nat) (a_ways : Nat) (a_ends : Nat) (a_tried : Nat) (v_storeys : Int32) (v_jacks : Int32) (v_soft : Int32) (v_pairs : Int32) (v_bytes : Int32) (v_position : Int32) (v_tokenAt : Int32) (v_token : Int64) (v_digits : Int32) (v_number : Int32) (v_faultAt : Int32) (v_readMany : Int32) (v_readStoreys : Int32) (v_readPairs : Int32) (v_rows : Int32) (v_sights : Int32) (v_wind : (Nat → Int32)) (x1 : Int32) (x2 : Int32) (x3 : Int32) (post : (Nat → Int32) → Prop) (hB : mx_B p m c cX5_putWind 5 s args RX5 E) (hP : va_P E.1 vwCl (w_X5_putWind E a_t a_storey a_wind a_pair a_text a_read a_now a_image a_isKept a_row a_sight a_ways a_ends a_tried v_storeys v_jacks v_soft v_pairs v_bytes v_position v_tokenAt v_token v_digits v_number v_faultAt v_readMany v_readStoreys v_readPairs v_rows v_sights v_wind) s.heap) (hD : va_D A (w_X5_putWind E a_t a_storey a_wind a_pair a_text a_read a_now a_image a_isKept a_row a_sight a_ways a_ends a_tried v_storeys v_jacks v_soft v_pairs v_bytes v_position v_tokenAt v_token v_digits v_number v_faultAt v_readMany v_readStoreys v_readPairs v_rows v_sights v_wind)) (hA : ∀ q : Nat, s.heap.size ≤ q → A q) (hRet : ∀ (u : (Nat → Int32)) (pc : Nat) (ls : Array Slot) (H : Heap) (locs : List Loc), decode cX5_putWind pc = .ok (.return_, 1) → post u → va_P E.1 vwCl (w_X5_putWind E a_t a_storey a_wind a_pair a_text a_read a_now a_image a_isKept a_row a_sight a_ways a_ends a_tried v_storeys v_jacks v_soft v_pairs v_bytes v_position v_tokenAt v_token v_digits v_number v_faultAt v_readMany v_readStoreys v_readPairs v_rows v_sights u) H → va_S A s.heap H locs → W p l e rm_X5_putWind s m args below meth c H locs 0 0 Q (F0 m pc ls [])) (hf : f_X5_putWind v_wind x1 x2 x3 post) (ls : Array Slot) (hl : lv_has ls 5 [(0, .ref a_t), (1, .int x1), (2, .int x2), (3, .int x3)]) : W p l e rm_X5_putWind s m args below meth c s.heap [] 0 0 Q (F0 m 0 ls []) := by
  have hx := hB.x
  have hb := hB.b
  have hS : va_S A s.heap s.heap [] := va_S.rf
  have L_3 : ∀ (g3_x2 : Int32) (g3_x3 : Int32) (n : Nat) (j3_x4 : Int32) (j3_v_wind : (Nat → Int32)) (ls : Array Slot) (H : Heap) (locs : List Loc), mx_l2 (f_X5_putWind_3 post g3_x2 g3_x3) n j3_x4 j3_v_wind → lv_has ls 5 [(0, .ref a_t), (2, .int g3_x2), (3, .int g3_x3), (4, .int j3_x4)] → va_P E.1 vwCl (w_X5_putWind E a_t a_storey a_wind a_pair a_text a_read a_now a_image a_isKept a_row a_sight a_ways a_ends a_tried v_storeys v_jacks v_soft v_pairs v_bytes v_position v_tokenAt v_token v_digits v_number v_faultAt v_readMany v_readStoreys v_readPairs v_rows v_sights j3_v_wind) H → va_D A (w_X5_putWind E a_t a_storey a_wind a_pair a_text a_read a_now a_image a_isKept a_row a_sight a_ways a_ends a_tried v_storeys v_jacks v_soft v_pairs v_bytes v_position v_tokenAt v_token v_digits v_number v_faultAt v_readMany v_readStoreys v_readPairs v_rows v_sights j3_v_wind) → va_S A s.heap H locs → W p l e rm_X5_putWind s m args below meth c H locs 0 0 Q (F0 m 3 ls []) := by
    intro g3_x2 g3_x3 n_3
    induction n_3 with
    | zero =>
      intro j3_x4 j3_v_wind ls H locs hf hl hP hD hS
      exact False.elim hf
    | succ n_3 ih_3 =>
      intro j3_x4 j3_v_wind ls H locs hf hl hP hD hS
      replace hf : f_X5_putWind_3 post g3_x2 g3_x3 (mx_l2 (f_X5_putWind_3 post g3_x2 g3_x3) n_3) j3_x4 j3_v_wind := hf
      refine lv_iload hx hb dX5_putWind_3 (lv_at hl 3 rfl) ?_
      refine lv_iload_n hx hb dX5_putWind_5 rfl (lv_at hl 1 rfl) ?_
      refine lv_icmp_gt (tgt := 23) hx hb dX5_putWind_6 (by decide) (fun c6 => ?_) (fun c6 => ?_)
      · have hf := hf.1 c6
        exact hRet j3_v_wind 23 ls H locs dX5_putWind_23 hf hP hS
      · have hf := hf.2 c6
        refine lv_aload_n hx hb dX5_putWind_9 rfl (lv_at hl 0 rfl) ?_
        refine gf_X5_20 hB hP 0 rfl rfl dX5_putWind_10 ?_
        refine lv_iload hx hb dX5_putWind_13 (lv_at hl 3 rfl) ?_
        refine lv_iload_n hx hb dX5_putWind_15 rfl (lv_at hl 2 rfl) ?_
        obtain ⟨h_in, hf⟩ := hf
        refine va_iast hx hb hB.K hP hD hS 1 0 rfl rfl h_in dX5_putWind_16 (fun H locs hP hD hS => ?_)
        have hP : va_P E.1 vwCl (w_X5_putWind E a_t a_storey a_wind a_pair a_text a_read a_now a_image a_isKept a_row a_sight a_ways a_ends a_tried v_storeys v_jacks v_soft v_pairs v_bytes v_position v_tokenAt v_token v_digits v_number v_faultAt v_readMany v_readStoreys v_readPairs v_rows v_sights (upd j3_v_wind j3_x4.toNatClampNeg g3_x3)) H := hP
        have hD : va_D A (w_X5_putWind E a_t a_storey a_wind a_pair a_text a_read a_now a_image a_isKept a_row a_sight a_ways a_ends a_tried v_storeys v_jacks v_soft v_pairs v_bytes v_position v_tokenAt v_token v_digits v_number v_faultAt v_readMany v_readStoreys v_readPairs v_rows v_sights (upd j3_v_wind j3_x4.toNatClampNeg g3_x3)) := hD
        refine lv_iinc (v := j3_x4 + 1) (lv' := [(4, .int (j3_x4 + 1)), (0, .ref a_t), (2, .int g3_x2), (3, .int g3_x3)]) hx hb dX5_putWind_17 hl (k := 3) rfl (by rw [kc_i_1]) (by decide) rfl (fun ls hl => ?_)
        refine lv_goto (tgt := 3) hx hb dX5_putWind_20 (by decide) ?_
        exact ih_3 (j3_x4 + 1) (upd j3_v_wind j3_x4.toNatClampNeg g3_x3) ls H locs hf (lv_sub hl [1, 2, 3, 0] rfl) hP hD hS
  obtain ⟨H, locs, eH, eL⟩ : ∃ (H : Heap) (locs : List Loc), H = s.heap ∧ locs = [] := ⟨_, _, rfl, rfl⟩
  rw [← eH] at hP
  have hS : va_S A s.heap H locs := by rw [eH, eL]; exact hS
  show W p l e rm_X5_putWind s m args below meth c s.heap [] 0 0 Q (F0 m 0 ls [])
  rw [← eH, ← eL]
  refine lv_iload_n hx hb dX5_putWind_0 rfl (lv_at hl 1 rfl) ?_
  refine lv_istore (lv' := [(4, .int x1), (0, .ref a_t), (1, .int x1), (2, .int x2), (3, .int x3)]) hx hb dX5_putWind_1 hl (by decide) rfl (fun ls hl => ?_)
  obtain ⟨n9, hf⟩ := hf
  exact L_3 x2 x3 n9 x1 v_wind ls H locs hf (lv_sub hl [1, 3, 4, 0] rfl) hP hD hS
theorem c_X5_putWind (l : Launch) (E : mx_E) (a_t : Nat) (a_storey : Nat) (a_wind : Nat) (a_pair : Nat) (a_text : Nat) (a_read : Nat) (a_now : Nat) (a_image : Nat) (a_isKept : Nat) (a_row : Nat) (a_sight : Nat) (a_ways : Nat) (a_ends : Nat) (a_tried : Nat) (v_storeys : Int32) (v_jacks : Int32) (v_soft : Int32) (v_pairs : Int32) (v_bytes : Int32) (v_position : Int32) (v_tokenAt : Int32) (v_token : Int64) (v_digits : Int32) (v_number : Int32) (v_faultAt : Int32) (v_readMany : Int32) (v_readStoreys : Int32) (v_readPairs : Int32) (v_rows : Int32) (v_sights : Int32) (v_wind : (Nat → Int32)) (sz : Nat) (x1 : Int32) (x2 : Int32) (x3 : Int32) (post : (Nat → Int32) → Prop) (hf : f_X5_putWind v_wind x1 x2 x3 post) : Met l yX5_putWind (Cond.code yX5_putWind cX5_putWind 5 none :: mx_WS) rm_X5_putWind (va_Pc [.ref a_t, .int x1, .int x2, .int x3] (mx_Pw E (w_X5_putWind E a_t a_storey a_wind a_pair a_text a_read a_now a_image a_isKept a_row a_sight a_ways a_ends a_tried v_storeys v_jacks v_soft v_pairs v_bytes v_position v_tokenAt v_token v_digits v_number v_faultAt v_readMany v_readStoreys v_readPairs v_rows v_sights v_wind) sz)) (va_Qv (fun (u : (Nat → Int32)) => post u) (fun u t => va_P E.1 vwCl (w_X5_putWind E a_t a_storey a_wind a_pair a_text a_read a_now a_image a_isKept a_row a_sight a_ways a_ends a_tried v_storeys v_jacks v_soft v_pairs v_bytes v_position v_tokenAt v_token v_digits v_number v_faultAt v_readMany v_readStoreys v_readPairs v_rows v_sights u) t.heap) (va_A (w_X5_putWind E a_t a_storey a_wind a_pair a_text a_read a_now a_image a_isKept a_row a_sight a_ways a_ends a_tried v_storeys v_jacks v_soft v_pairs v_bytes v_position v_tokenAt v_token v_digits v_number v_faultAt v_readMany v_readStoreys v_readPairs v_rows v_sights v_wind) sz)) 0 0 (va_A (w_X5_putWind E a_t a_storey a_wind a_pair a_text a_read a_now a_image a_isKept a_row a_sight a_ways a_ends a_tried v_storeys v_jacks v_soft v_pairs v_bytes v_position v_tokenAt v_token v_digits v_number v_faultAt v_readMany v_readStoreys v_readPairs v_rows v_sights v_wind) sz) :=
  mx_metWv (by decide) rfl rfl (fun hB hP hD hA hRet ls hl => b_X5_putWind E a_t a_storey a_wind a_pair a_text a_read a_now a_image a_isKept a_row a_sight a_ways a_ends a_tried v_storeys v_jacks v_soft v_pairs v_bytes v_position v_tokenAt v_token v_digits v_number v_faultAt v_readMany v_readStoreys v_readPairs v_rows v_sights v_wind x1 x2 x3 post hB hP hD hA hRet hf ls hl)
def rm_X5_doLine : Room := { frames := 1, cells := 0, slots := 0, locals := 24 }
set_option maxHeartbeats 4000000 in
set_option maxRecDepth 100000 in
theorem b_X5_doLine {p : Program} {l : Launch} {e : Env} {s : State} {m : MethodId} {args : Array Value} {below : List Frame} {meth : Method} {c : Code} {Q : State → Prop} {A : Nat → Prop} (E : mx_E) (a_t : Nat) (a_storey : Nat) (a_wind : Nat) (a_pair : Nat) (a_text : Nat) (a_read : Nat) (a_now : Nat) (a_image : Nat) (a_isKept : Nat) (a_row : Nat) (a_sight : Nat) (a_ways : Nat) (a_ends : Nat) (a_tried : Nat) (v_storeys : Int32) (v_jacks : Int32) (v_soft : Int32) (v_pairs : Int32) (v_bytes : Int32) (v_position : Int32) (v_tokenAt : Int32) (v_token : Int64) (v_digits : Int32) (v_number : Int32) (v_faultAt : Int32) (v_readMany : Int32) (v_readStoreys : Int32) (v_readPairs : Int32) (v_rows : Int32) (v_sights : Int32) (v_read : (Nat → Int32)) (v_pair : (Nat → Int32)) (v_wind : (Nat → Int32)) (v_storey : (Nat → Int32)) (x1 : Int32) (post : (Nat → Int32) → Int32 → (Nat → Int32) → Int32 → Int32 → (Nat → Int32) → Int32 → Prop) (hB : mx_B p m c cX5_doLine 5 s args RX5 E) (hP : va_P E.1 vwCl (w_X5_doLine E a_t a_storey a_wind a_pair a_text a_read a_now a_image a_isKept a_row a_sight a_ways a_ends a_tried v_storeys v_jacks v_soft v_pairs v_bytes v_position v_tokenAt v_token v_digits v_number v_faultAt v_readMany v_readStoreys v_readPairs v_rows v_sights v_read v_pair v_wind v_storey) s.heap) (hD : va_D A (w_X5_doLine E a_t a_storey a_wind a_pair a_text a_read a_now a_image a_isKept a_row a_sight a_ways a_ends a_tried v_storeys v_jacks v_soft v_pairs v_bytes v_position v_tokenAt v_token v_digits v_number v_faultAt v_readMany v_readStoreys v_readPairs v_rows v_sights v_read v_pair v_wind v_storey)) (hA : ∀ q : Nat, s.heap.size ≤ q → A q) (hRet : ∀ (u : (Nat → Int32) × Int32 × (Nat → Int32) × Int32 × Int32 × (Nat → Int32) × Int32) (pc : Nat) (ls : Array Slot) (H : Heap) (locs : List Loc), decode cX5_doLine pc = .ok (.return_, 1) → post u.1 u.2.1 u.2.2.1 u.2.2.2.1 u.2.2.2.2.1 u.2.2.2.2.2.1 u.2.2.2.2.2.2 → va_P E.1 vwCl (w_X5_doLine E a_t a_storey a_wind a_pair a_text a_read a_now a_image a_isKept a_row a_sight a_ways a_ends a_tried u.2.2.2.2.2.2 u.2.2.2.2.1 u.2.2.2.1 u.2.1 v_bytes v_position v_tokenAt v_token v_digits v_number v_faultAt v_readMany v_readStoreys v_readPairs v_rows v_sights v_read u.1 u.2.2.1 u.2.2.2.2.2.1) H → va_S A s.heap H locs → W p l e rm_X5_doLine s m args below meth c H locs 0 0 Q (F0 m pc ls [])) (hf : f_X5_doLine v_read v_pair v_pairs v_wind v_soft v_jacks v_storey v_storeys x1 post) (ls : Array Slot) (hl : lv_has ls 5 [(0, .ref a_t), (1, .int x1)]) : W p l e rm_X5_doLine s m args below meth c s.heap [] 0 0 Q (F0 m 0 ls []) := by
  have hx := hB.x
  have hb := hB.b
  have hS : va_S A s.heap s.heap [] := va_S.rf
  have J_114 : ∀ (j114_v_pair : (Nat → Int32)) (j114_v_pairs : Int32) (j114_v_wind : (Nat → Int32)) (j114_v_soft : Int32) (j114_v_jacks : Int32) (j114_v_storey : (Nat → Int32)) (j114_v_storeys : Int32) (ls : Array Slot) (H : Heap) (locs : List Loc), f_X5_doLine_114 v_read post j114_v_pair j114_v_pairs j114_v_wind j114_v_soft j114_v_jacks j114_v_storey j114_v_storeys → lv_has ls 5 [(0, .ref a_t)] → va_P E.1 vwCl (w_X5_doLine E a_t a_storey a_wind a_pair a_text a_read a_now a_image a_isKept a_row a_sight a_ways a_ends a_tried j114_v_storeys j114_v_jacks j114_v_soft j114_v_pairs v_bytes v_position v_tokenAt v_token v_digits v_number v_faultAt v_readMany v_readStoreys v_readPairs v_rows v_sights v_read j114_v_pair j114_v_wind j114_v_storey) H → va_D A (w_X5_doLine E a_t a_storey a_wind a_pair a_text a_read a_now a_image a_isKept a_row a_sight a_ways a_ends a_tried j114_v_storeys j114_v_jacks j114_v_soft j114_v_pairs v_bytes v_position v_tokenAt v_token v_digits v_number v_faultAt v_readMany v_readStoreys v_readPairs v_rows v_sights v_read j114_v_pair j114_v_wind j114_v_storey) → va_S A s.heap H locs → W p l e rm_X5_doLine s m args below meth c H locs 0 0 Q (F0 m 114 ls []) := by
    intro j114_v_pair j114_v_pairs j114_v_wind j114_v_soft j114_v_jacks j114_v_storey j114_v_storeys ls H locs hf hl hP hD hS
    refine lv_aload_n hx hb dX5_doLine_114 rfl (lv_at hl 0 rfl) ?_
    refine gf_X5_7 hB hP 0 rfl rfl dX5_doLine_115 ?_
    refine lv_iconst hx hb dX5_doLine_118 kc_i_5 ?_
    refine lv_aload_n hx hb dX5_doLine_119 rfl (lv_at hl 0 rfl) ?_
    refine gf_X5_57 hB hP 0 rfl rfl dX5_doLine_120 ?_
    refine lv_imul hx hb dX5_doLine_123 ?_
    refine lv_iconst hx hb dX5_doLine_124 kc_i_4 ?_
    refine lv_iadd hx hb dX5_doLine_125 ?_
    refine lv_iconst hx hb dX5_doLine_126 kc_i_0 ?_
    obtain ⟨h_in, hf⟩ := hf
    refine va_iast hx hb hB.K hP hD hS 4 0 rfl rfl h_in dX5_doLine_127 (fun H locs hP hD hS => ?_)
    have hP : va_P E.1 vwCl (w_X5_doLine E a_t a_storey a_wind a_pair a_text a_read a_now a_image a_isKept a_row a_sight a_ways a_ends a_tried j114_v_storeys j114_v_jacks j114_v_soft j114_v_pairs v_bytes v_position v_tokenAt v_token v_digits v_number v_faultAt v_readMany v_readStoreys v_readPairs v_rows v_sights v_read j114_v_pair j114_v_wind (upd j114_v_storey ((5 * j114_v_storeys) + 4).toNatClampNeg 0)) H := hP
    have hD : va_D A (w_X5_doLine E a_t a_storey a_wind a_pair a_text a_read a_now a_image a_isKept a_row a_sight a_ways a_ends a_tried j114_v_storeys j114_v_jacks j114_v_soft j114_v_pairs v_bytes v_position v_tokenAt v_token v_digits v_number v_faultAt v_readMany v_readStoreys v_readPairs v_rows v_sights v_read j114_v_pair j114_v_wind (upd j114_v_storey ((5 * j114_v_storeys) + 4).toNatClampNeg 0)) := hD
    refine lv_aload_n hx hb dX5_doLine_128 rfl (lv_at hl 0 rfl) ?_
    refine lv_dup hx hb dX5_doLine_129 rfl ?_
    refine gf_X5_57 hB hP 0 rfl rfl dX5_doLine_130 ?_
    refine lv_iconst hx hb dX5_doLine_133 kc_i_1 ?_
    refine lv_iadd hx hb dX5_doLine_134 ?_
    refine pf_X5_57 hB hP hD hS 0 rfl (Nat.le_of_ble_eq_true rfl) dX5_doLine_135 (w_X5_doLine E a_t a_storey a_wind a_pair a_text a_read a_now a_image a_isKept a_row a_sight a_ways a_ends a_tried (j114_v_storeys + 1) j114_v_jacks j114_v_soft j114_v_pairs v_bytes v_position v_tokenAt v_token v_digits v_number v_faultAt v_readMany v_readStoreys v_readPairs v_rows v_sights v_read j114_v_pair j114_v_wind (upd j114_v_storey ((5 * j114_v_storeys) + 4).toNatClampNeg 0)) rfl (fun H locs hP hD hS => ?_)
    refine lv_goto (tgt := 258) hx hb dX5_doLine_138 (by decide) ?_
    exact hRet (j114_v_pair, j114_v_pairs, j114_v_wind, j114_v_soft, j114_v_jacks, upd j114_v_storey ((5 * j114_v_storeys) + 4).toNatClampNeg 0, j114_v_storeys + 1) 258 ls H locs dX5_doLine_258 hf hP hS
  have L_79 : ∀ (g79_x1 : Int32) (g79_v_pair : (Nat → Int32)) (g79_v_pairs : Int32) (g79_v_wind : (Nat → Int32)) (g79_v_soft : Int32) (g79_v_jacks : Int32) (g79_v_storeys : Int32) (n : Nat) (j79_x4 : Int32) (j79_v_storey : (Nat → Int32)) (ls : Array Slot) (H : Heap) (locs : List Loc), mx_l2 (f_X5_doLine_79 v_read post g79_x1 g79_v_pair g79_v_pairs g79_v_wind g79_v_soft g79_v_jacks g79_v_storeys) n j79_x4 j79_v_storey → lv_has ls 5 [(0, .ref a_t), (1, .int g79_x1), (4, .int j79_x4)] → va_P E.1 vwCl (w_X5_doLine E a_t a_storey a_wind a_pair a_text a_read a_now a_image a_isKept a_row a_sight a_ways a_ends a_tried g79_v_storeys g79_v_jacks g79_v_soft g79_v_pairs v_bytes v_position v_tokenAt v_token v_digits v_number v_faultAt v_readMany v_readStoreys v_readPairs v_rows v_sights v_read g79_v_pair g79_v_wind j79_v_storey) H → va_D A (w_X5_doLine E a_t a_storey a_wind a_pair a_text a_read a_now a_image a_isKept a_row a_sight a_ways a_ends a_tried g79_v_storeys g79_v_jacks g79_v_soft g79_v_pairs v_bytes v_position v_tokenAt v_token v_digits v_number v_faultAt v_readMany v_readStoreys v_readPairs v_rows v_sights v_read g79_v_pair g79_v_wind j79_v_storey) → va_S A s.heap H locs → W p l e rm_X5_doLine s m args below meth c H locs 0 0 Q (F0 m 79 ls []) := by
    intro g79_x1 g79_v_pair g79_v_pairs g79_v_wind g79_v_soft g79_v_jacks g79_v_storeys n_79
    induction n_79 with
    | zero =>
      intro j79_x4 j79_v_storey ls H locs hf hl hP hD hS
      exact False.elim hf
    | succ n_79 ih_79 =>
      intro j79_x4 j79_v_storey ls H locs hf hl hP hD hS
      replace hf : f_X5_doLine_79 v_read post g79_x1 g79_v_pair g79_v_pairs g79_v_wind g79_v_soft g79_v_jacks g79_v_storeys (mx_l2 (f_X5_doLine_79 v_read post g79_x1 g79_v_pair g79_v_pairs g79_v_wind g79_v_soft g79_v_jacks g79_v_storeys) n_79) j79_x4 j79_v_storey := hf
      refine lv_iload hx hb dX5_doLine_79 (lv_at hl 2 rfl) ?_
      refine lv_iconst hx hb dX5_doLine_81 kc_i_4 ?_
      refine lv_icmp_ge (tgt := 114) hx hb dX5_doLine_82 (by decide) (fun c82 => ?_) (fun c82 => ?_)
      · have hf := hf.1 c82
        exact J_114 g79_v_pair g79_v_pairs g79_v_wind g79_v_soft g79_v_jacks j79_v_storey g79_v_storeys ls H locs hf (lv_sub hl [0] rfl) hP hD hS
      · have hf := hf.2 c82
        refine lv_aload_n hx hb dX5_doLine_85 rfl (lv_at hl 0 rfl) ?_
        refine gf_X5_7 hB hP 0 rfl rfl dX5_doLine_86 ?_
        refine lv_iconst hx hb dX5_doLine_89 kc_i_5 ?_
        refine lv_aload_n hx hb dX5_doLine_90 rfl (lv_at hl 0 rfl) ?_
        refine gf_X5_57 hB hP 0 rfl rfl dX5_doLine_91 ?_
        refine lv_imul hx hb dX5_doLine_94 ?_
        refine lv_iload hx hb dX5_doLine_95 (lv_at hl 2 rfl) ?_
        refine lv_iadd hx hb dX5_doLine_97 ?_
        refine lv_aload_n hx hb dX5_doLine_98 rfl (lv_at hl 0 rfl) ?_
        refine gf_X5_29 hB hP 0 rfl rfl dX5_doLine_99 ?_
        refine lv_iload_n hx hb dX5_doLine_102 rfl (lv_at hl 1 rfl) ?_
        refine lv_iload hx hb dX5_doLine_103 (lv_at hl 2 rfl) ?_
        refine lv_iadd hx hb dX5_doLine_105 ?_
        obtain ⟨h_in, hf⟩ := hf
        refine va_iald hx hb hB.K hP 1 0 rfl rfl h_in dX5_doLine_106 ?_
        obtain ⟨h_in, hf⟩ := hf
        refine va_iast hx hb hB.K hP hD hS 4 0 rfl rfl h_in dX5_doLine_107 (fun H locs hP hD hS => ?_)
        have hP : va_P E.1 vwCl (w_X5_doLine E a_t a_storey a_wind a_pair a_text a_read a_now a_image a_isKept a_row a_sight a_ways a_ends a_tried g79_v_storeys g79_v_jacks g79_v_soft g79_v_pairs v_bytes v_position v_tokenAt v_token v_digits v_number v_faultAt v_readMany v_readStoreys v_readPairs v_rows v_sights v_read g79_v_pair g79_v_wind (upd j79_v_storey ((5 * g79_v_storeys) + j79_x4).toNatClampNeg (v_read (g79_x1 + j79_x4).toNatClampNeg))) H := hP
        have hD : va_D A (w_X5_doLine E a_t a_storey a_wind a_pair a_text a_read a_now a_image a_isKept a_row a_sight a_ways a_ends a_tried g79_v_storeys g79_v_jacks g79_v_soft g79_v_pairs v_bytes v_position v_tokenAt v_token v_digits v_number v_faultAt v_readMany v_readStoreys v_readPairs v_rows v_sights v_read g79_v_pair g79_v_wind (upd j79_v_storey ((5 * g79_v_storeys) + j79_x4).toNatClampNeg (v_read (g79_x1 + j79_x4).toNatClampNeg))) := hD
        refine lv_iinc (v := j79_x4 + 1) (lv' := [(4, .int (j79_x4 + 1)), (0, .ref a_t), (1, .int g79_x1)]) hx hb dX5_doLine_108 hl (k := 2) rfl (by rw [kc_i_1]) (by decide) rfl (fun ls hl => ?_)
        refine lv_goto (tgt := 79) hx hb dX5_doLine_111 (by decide) ?_
        exact ih_79 (j79_x4 + 1) (upd j79_v_storey ((5 * g79_v_storeys) + j79_x4).toNatClampNeg (v_read (g79_x1 + j79_x4).toNatClampNeg)) ls H locs hf (lv_sub hl [1, 2, 0] rfl) hP hD hS
  obtain ⟨H, locs, eH, eL⟩ : ∃ (H : Heap) (locs : List Loc), H = s.heap ∧ locs = [] := ⟨_, _, rfl, rfl⟩
  rw [← eH] at hP
  have hS : va_S A s.heap H locs := by rw [eH, eL]; exact hS
  show W p l e rm_X5_doLine s m args below meth c s.heap [] 0 0 Q (F0 m 0 ls [])
  rw [← eH, ← eL]
  refine lv_aload_n hx hb dX5_doLine_0 rfl (lv_at hl 0 rfl) ?_
  refine gf_X5_29 hB hP 0 rfl rfl dX5_doLine_1 ?_
  refine lv_iload_n hx hb dX5_doLine_4 rfl (lv_at hl 1 rfl) ?_
  refine lv_iconst hx hb dX5_doLine_5 kc_i_1 ?_
  refine lv_iadd hx hb dX5_doLine_6 ?_
  obtain ⟨h_in, hf⟩ := hf
  refine va_iald hx hb hB.K hP 1 0 rfl rfl h_in dX5_doLine_7 ?_
  refine lv_istore_n (lv' := [(2, .int (v_read (x1 + 1).toNatClampNeg)), (0, .ref a_t), (1, .int x1)]) hx hb dX5_doLine_8 rfl hl (by decide) rfl (fun ls hl => ?_)
  refine lv_aload_n hx hb dX5_doLine_9 rfl (lv_at hl 1 rfl) ?_
  refine gf_X5_29 hB hP 0 rfl rfl dX5_doLine_10 ?_
  refine lv_iload_n hx hb dX5_doLine_13 rfl (lv_at hl 2 rfl) ?_
  refine lv_iconst hx hb dX5_doLine_14 kc_i_2 ?_
  refine lv_iadd hx hb dX5_doLine_15 ?_
  obtain ⟨h_in, hf⟩ := hf
  refine va_iald hx hb hB.K hP 1 0 rfl rfl h_in dX5_doLine_16 ?_
  refine lv_istore_n (lv' := [(3, .int (v_read (x1 + 2).toNatClampNeg)), (2, .int (v_read (x1 + 1).toNatClampNeg)), (0, .ref a_t), (1, .int x1)]) hx hb dX5_doLine_17 rfl hl (by decide) rfl (fun ls hl => ?_)
  refine lv_aload_n hx hb dX5_doLine_18 rfl (lv_at hl 2 rfl) ?_
  refine gf_X5_29 hB hP 0 rfl rfl dX5_doLine_19 ?_
  refine lv_iload_n hx hb dX5_doLine_22 rfl (lv_at hl 3 rfl) ?_
  obtain ⟨h_in, hf⟩ := hf
  refine va_iald hx hb hB.K hP 1 0 rfl rfl h_in dX5_doLine_23 ?_
  by_cases c24_0 : (v_read x1.toNatClampNeg) = 0
  · have hf := hf.1 c24_0
    refine lv_tableIn (tgt := 76) hx hb dX5_doLine_24 (by rw [c24_0]; decide) (by rw [c24_0]; decide) (by rw [c24_0]; rfl) (by decide) ?_
    refine lv_iconst hx hb dX5_doLine_76 kc_i_0 ?_
    refine lv_istore (lv' := [(4, .int 0), (3, .int (v_read (x1 + 2).toNatClampNeg)), (2, .int (v_read (x1 + 1).toNatClampNeg)), (0, .ref a_t), (1, .int x1)]) hx hb dX5_doLine_77 hl (by decide) rfl (fun ls hl => ?_)
    obtain ⟨n9, hf⟩ := hf
    exact L_79 x1 v_pair v_pairs v_wind v_soft v_jacks v_storeys n9 0 v_storey ls H locs hf (lv_sub hl [3, 4, 0] rfl) hP hD hS
  · have hf := hf.2 c24_0
    by_cases c24_1 : (v_read x1.toNatClampNeg) = 1
    · have hf := hf.1 c24_1
      refine lv_tableIn (tgt := 76) hx hb dX5_doLine_24 (by rw [c24_1]; decide) (by rw [c24_1]; decide) (by rw [c24_1]; rfl) (by decide) ?_
      refine lv_iconst hx hb dX5_doLine_76 kc_i_0 ?_
      refine lv_istore (lv' := [(4, .int 0), (3, .int (v_read (x1 + 2).toNatClampNeg)), (2, .int (v_read (x1 + 1).toNatClampNeg)), (0, .ref a_t), (1, .int x1)]) hx hb dX5_doLine_77 hl (by decide) rfl (fun ls hl => ?_)
      obtain ⟨n9, hf⟩ := hf
      exact L_79 x1 v_pair v_pairs v_wind v_soft v_jacks v_storeys n9 0 v_storey ls H locs hf (lv_sub hl [3, 4, 0] rfl) hP hD hS
    · have hf := hf.2 c24_1
      by_cases c24_2 : (v_read x1.toNatClampNeg) = 2
      · have hf := hf.1 c24_2
        refine lv_tableIn (tgt := 76) hx hb dX5_doLine_24 (by rw [c24_2]; decide) (by rw [c24_2]; decide) (by rw [c24_2]; rfl) (by decide) ?_
        refine lv_iconst hx hb dX5_doLine_76 kc_i_0 ?_
        refine lv_istore (lv' := [(4, .int 0), (3, .int (v_read (x1 + 2).toNatClampNeg)), (2, .int (v_read (x1 + 1).toNatClampNeg)), (0, .ref a_t), (1, .int x1)]) hx hb dX5_doLine_77 hl (by decide) rfl (fun ls hl => ?_)
        obtain ⟨n9, hf⟩ := hf
        exact L_79 x1 v_pair v_pairs v_wind v_soft v_jacks v_storeys n9 0 v_storey ls H locs hf (lv_sub hl [3, 4, 0] rfl) hP hD hS
      · have hf := hf.2 c24_2
        by_cases c24_3 : (v_read x1.toNatClampNeg) = 3
        · have hf := hf.1 c24_3
          refine lv_tableIn (tgt := 76) hx hb dX5_doLine_24 (by rw [c24_3]; decide) (by rw [c24_3]; decide) (by rw [c24_3]; rfl) (by decide) ?_
          refine lv_iconst hx hb dX5_doLine_76 kc_i_0 ?_
          refine lv_istore (lv' := [(4, .int 0), (3, .int (v_read (x1 + 2).toNatClampNeg)), (2, .int (v_read (x1 + 1).toNatClampNeg)), (0, .ref a_t), (1, .int x1)]) hx hb dX5_doLine_77 hl (by decide) rfl (fun ls hl => ?_)
          obtain ⟨n9, hf⟩ := hf
          exact L_79 x1 v_pair v_pairs v_wind v_soft v_jacks v_storeys n9 0 v_storey ls H locs hf (lv_sub hl [3, 4, 0] rfl) hP hD hS
        · have hf := hf.2 c24_3
          by_cases c24_4 : (v_read x1.toNatClampNeg) = 4
          · have hf := hf.1 c24_4
            refine lv_tableIn (tgt := 141) hx hb dX5_doLine_24 (by rw [c24_4]; decide) (by rw [c24_4]; decide) (by rw [c24_4]; rfl) (by decide) ?_
            refine lv_aload_n hx hb dX5_doLine_141 rfl (lv_at hl 2 rfl) ?_
            refine lv_iconst hx hb dX5_doLine_142 kc_i_0 ?_
            refine pf_X5_57 hB hP hD hS 0 rfl (Nat.le_of_ble_eq_true rfl) dX5_doLine_143 (w_X5_doLine E a_t a_storey a_wind a_pair a_text a_read a_now a_image a_isKept a_row a_sight a_ways a_ends a_tried 0 v_jacks v_soft v_pairs v_bytes v_position v_tokenAt v_token v_digits v_number v_faultAt v_readMany v_readStoreys v_readPairs v_rows v_sights v_read v_pair v_wind v_storey) rfl (fun H locs hP hD hS => ?_)
            refine lv_aload_n hx hb dX5_doLine_146 rfl (lv_at hl 2 rfl) ?_
            refine lv_iconst hx hb dX5_doLine_147 kc_i_0 ?_
            refine pf_X5_149 hB hP hD hS 0 rfl (Nat.le_of_ble_eq_true rfl) dX5_doLine_148 (w_X5_doLine E a_t a_storey a_wind a_pair a_text a_read a_now a_image a_isKept a_row a_sight a_ways a_ends a_tried 0 v_jacks v_soft 0 v_bytes v_position v_tokenAt v_token v_digits v_number v_faultAt v_readMany v_readStoreys v_readPairs v_rows v_sights v_read v_pair v_wind v_storey) rfl (fun H locs hP hD hS => ?_)
            refine lv_aload_n hx hb dX5_doLine_151 rfl (lv_at hl 2 rfl) ?_
            refine lv_sipush hx hb dX5_doLine_152 kc_s_500 ?_
            refine pf_X5_13 hB hP hD hS 0 rfl (Nat.le_of_ble_eq_true rfl) dX5_doLine_155 (w_X5_doLine E a_t a_storey a_wind a_pair a_text a_read a_now a_image a_isKept a_row a_sight a_ways a_ends a_tried 0 500 v_soft 0 v_bytes v_position v_tokenAt v_token v_digits v_number v_faultAt v_readMany v_readStoreys v_readPairs v_rows v_sights v_read v_pair v_wind v_storey) rfl (fun H locs hP hD hS => ?_)
            refine lv_aload_n hx hb dX5_doLine_158 rfl (lv_at hl 2 rfl) ?_
            refine lv_bipush hx hb dX5_doLine_159 kc_b_10 ?_
            refine pf_X5_17 hB hP hD hS 0 rfl (Nat.le_of_ble_eq_true rfl) dX5_doLine_161 (w_X5_doLine E a_t a_storey a_wind a_pair a_text a_read a_now a_image a_isKept a_row a_sight a_ways a_ends a_tried 0 500 10 0 v_bytes v_position v_tokenAt v_token v_digits v_number v_faultAt v_readMany v_readStoreys v_readPairs v_rows v_sights v_read v_pair v_wind v_storey) rfl (fun H locs hP hD hS => ?_)
            refine lv_aload_n hx hb dX5_doLine_164 rfl (lv_at hl 2 rfl) ?_
            refine lv_iconst hx hb dX5_doLine_165 kc_i_0 ?_
            refine lv_bipush hx hb dX5_doLine_166 kc_b_39 ?_
            refine lv_iconst hx hb dX5_doLine_168 kc_i_0 ?_
            refine mx_wv (mx_runV (As := [.int 0, .int 39, .int 0]) (rest := []) hB (c_X5_putWind l E a_t a_storey a_wind a_pair a_text a_read a_now a_image a_isKept a_row a_sight a_ways a_ends a_tried 0 500 10 0 v_bytes v_position v_tokenAt v_token v_digits v_number v_faultAt v_readMany v_readStoreys v_readPairs v_rows v_sights v_wind H.size 0 39 0 _ hf) sB_X5_putWind sV_X5_putWind wml_X5_158 rfl (mx_pwV hB hP hD [0, 3] (by decide) rfl rfl 5 rfl rfl rfl) hl.1 rfl (Nat.le_of_ble_eq_true rfl) dX5_doLine_169 ⟨Nat.zero_le _, Nat.zero_le _⟩) hP hD hS hA [0, 3] [1, 2, 4] 5 rfl (fun u => w_X5_doLine E a_t a_storey a_wind a_pair a_text a_read a_now a_image a_isKept a_row a_sight a_ways a_ends a_tried 0 500 10 0 v_bytes v_position v_tokenAt v_token v_digits v_number v_faultAt v_readMany v_readStoreys v_readPairs v_rows v_sights v_read v_pair u v_storey) (fun _ => rfl) (by decide) (fun _ => rfl) (fun _ => rfl) rfl (fun _ => rfl) (fun u H locs hf hP hD hS => ?_)
            obtain ⟨u2, rfl⟩ : ∃ z, z = u := ⟨_, rfl⟩
            have hP : va_P E.1 vwCl (w_X5_doLine E a_t a_storey a_wind a_pair a_text a_read a_now a_image a_isKept a_row a_sight a_ways a_ends a_tried 0 500 10 0 v_bytes v_position v_tokenAt v_token v_digits v_number v_faultAt v_readMany v_readStoreys v_readPairs v_rows v_sights v_read v_pair u2 v_storey) H := hP
            have hD : va_D A (w_X5_doLine E a_t a_storey a_wind a_pair a_text a_read a_now a_image a_isKept a_row a_sight a_ways a_ends a_tried 0 500 10 0 v_bytes v_position v_tokenAt v_token v_digits v_number v_faultAt v_readMany v_readStoreys v_readPairs v_rows v_sights v_read v_pair u2 v_storey) := hD
            refine lv_goto (tgt := 258) hx hb dX5_doLine_172 (by decide) ?_
            exact hRet (v_pair, 0, u2, 10, 500, v_storey, 0) 258 ls H locs dX5_doLine_258 hf hP hS
          · have hf := hf.2 c24_4
            by_cases c24_5 : (v_read x1.toNatClampNeg) = 5
            · have hf := hf.1 c24_5
              refine lv_tableIn (tgt := 175) hx hb dX5_doLine_24 (by rw [c24_5]; decide) (by rw [c24_5]; decide) (by rw [c24_5]; rfl) (by decide) ?_
              refine lv_aload_n hx hb dX5_doLine_175 rfl (lv_at hl 2 rfl) ?_
              refine gf_X5_7 hB hP 0 rfl rfl dX5_doLine_176 ?_
              refine lv_iconst hx hb dX5_doLine_179 kc_i_5 ?_
              refine lv_iload_n hx hb dX5_doLine_180 rfl (lv_at hl 1 rfl) ?_
              refine lv_imul hx hb dX5_doLine_181 ?_
              refine lv_iconst hx hb dX5_doLine_182 kc_i_4 ?_
              refine lv_iadd hx hb dX5_doLine_183 ?_
              refine lv_iload_n hx hb dX5_doLine_184 rfl (lv_at hl 0 rfl) ?_
              obtain ⟨h_in, hf⟩ := hf
              refine va_iast hx hb hB.K hP hD hS 4 0 rfl rfl h_in dX5_doLine_185 (fun H locs hP hD hS => ?_)
              have hP : va_P E.1 vwCl (w_X5_doLine E a_t a_storey a_wind a_pair a_text a_read a_now a_image a_isKept a_row a_sight a_ways a_ends a_tried v_storeys v_jacks v_soft v_pairs v_bytes v_position v_tokenAt v_token v_digits v_number v_faultAt v_readMany v_readStoreys v_readPairs v_rows v_sights v_read v_pair v_wind (upd v_storey ((5 * (v_read (x1 + 1).toNatClampNeg)) + 4).toNatClampNeg (v_read (x1 + 2).toNatClampNeg))) H := hP
              have hD : va_D A (w_X5_doLine E a_t a_storey a_wind a_pair a_text a_read a_now a_image a_isKept a_row a_sight a_ways a_ends a_tried v_storeys v_jacks v_soft v_pairs v_bytes v_position v_tokenAt v_token v_digits v_number v_faultAt v_readMany v_readStoreys v_readPairs v_rows v_sights v_read v_pair v_wind (upd v_storey ((5 * (v_read (x1 + 1).toNatClampNeg)) + 4).toNatClampNeg (v_read (x1 + 2).toNatClampNeg))) := hD
              refine lv_goto (tgt := 258) hx hb dX5_doLine_186 (by decide) ?_
              exact hRet (v_pair, v_pairs, v_wind, v_soft, v_jacks, upd v_storey ((5 * (v_read (x1 + 1).toNatClampNeg)) + 4).toNatClampNeg (v_read (x1 + 2).toNatClampNeg), v_storeys) 258 ls H locs dX5_doLine_258 hf hP hS
            · have hf := hf.2 c24_5
              by_cases c24_6 : (v_read x1.toNatClampNeg) = 6
              · have hf := hf.1 c24_6
                refine lv_tableIn (tgt := 189) hx hb dX5_doLine_24 (by rw [c24_6]; decide) (by rw [c24_6]; decide) (by rw [c24_6]; rfl) (by decide) ?_
                refine lv_aload_n hx hb dX5_doLine_189 rfl (lv_at hl 2 rfl) ?_
                refine lv_iload_n hx hb dX5_doLine_190 rfl (lv_at hl 1 rfl) ?_
                refine pf_X5_13 hB hP hD hS 0 rfl (Nat.le_of_ble_eq_true rfl) dX5_doLine_191 (w_X5_doLine E a_t a_storey a_wind a_pair a_text a_read a_now a_image a_isKept a_row a_sight a_ways a_ends a_tried v_storeys (v_read (x1 + 1).toNatClampNeg) v_soft v_pairs v_bytes v_position v_tokenAt v_token v_digits v_number v_faultAt v_readMany v_readStoreys v_readPairs v_rows v_sights v_read v_pair v_wind v_storey) rfl (fun H locs hP hD hS => ?_)
                refine lv_goto (tgt := 258) hx hb dX5_doLine_194 (by decide) ?_
                exact hRet (v_pair, v_pairs, v_wind, v_soft, v_read (x1 + 1).toNatClampNeg, v_storey, v_storeys) 258 ls H locs dX5_doLine_258 hf hP hS
              · have hf := hf.2 c24_6
                by_cases c24_7 : (v_read x1.toNatClampNeg) = 7
                · have hf := hf.1 c24_7
                  refine lv_tableIn (tgt := 197) hx hb dX5_doLine_24 (by rw [c24_7]; decide) (by rw [c24_7]; decide) (by rw [c24_7]; rfl) (by decide) ?_
                  refine lv_aload_n hx hb dX5_doLine_197 rfl (lv_at hl 2 rfl) ?_
                  refine lv_iload_n hx hb dX5_doLine_198 rfl (lv_at hl 1 rfl) ?_
                  refine pf_X5_17 hB hP hD hS 0 rfl (Nat.le_of_ble_eq_true rfl) dX5_doLine_199 (w_X5_doLine E a_t a_storey a_wind a_pair a_text a_read a_now a_image a_isKept a_row a_sight a_ways a_ends a_tried v_storeys v_jacks (v_read (x1 + 1).toNatClampNeg) v_pairs v_bytes v_position v_tokenAt v_token v_digits v_number v_faultAt v_readMany v_readStoreys v_readPairs v_rows v_sights v_read v_pair v_wind v_storey) rfl (fun H locs hP hD hS => ?_)
                  refine lv_goto (tgt := 258) hx hb dX5_doLine_202 (by decide) ?_
                  exact hRet (v_pair, v_pairs, v_wind, v_read (x1 + 1).toNatClampNeg, v_jacks, v_storey, v_storeys) 258 ls H locs dX5_doLine_258 hf hP hS
                · have hf := hf.2 c24_7
                  by_cases c24_8 : (v_read x1.toNatClampNeg) = 8
                  · have hf := hf.1 c24_8
                    refine lv_tableIn (tgt := 205) hx hb dX5_doLine_24 (by rw [c24_8]; decide) (by rw [c24_8]; decide) (by rw [c24_8]; rfl) (by decide) ?_
                    refine lv_aload_n hx hb dX5_doLine_205 rfl (lv_at hl 2 rfl) ?_
                    refine lv_iload_n hx hb dX5_doLine_206 rfl (lv_at hl 1 rfl) ?_
                    refine lv_iload_n hx hb dX5_doLine_207 rfl (lv_at hl 0 rfl) ?_
                    refine lv_aload_n hx hb dX5_doLine_208 rfl (lv_at hl 2 rfl) ?_
                    refine gf_X5_29 hB hP 0 rfl rfl dX5_doLine_209 ?_
                    refine lv_iload_n hx hb dX5_doLine_212 rfl (lv_at hl 3 rfl) ?_
                    refine lv_iconst hx hb dX5_doLine_213 kc_i_3 ?_
                    refine lv_iadd hx hb dX5_doLine_214 ?_
                    obtain ⟨h_in, hf⟩ := hf
                    refine va_iald hx hb hB.K hP 1 0 rfl rfl h_in dX5_doLine_215 ?_
                    refine mx_wv (mx_runV (As := [.int (v_read (x1 + 1).toNatClampNeg), .int (v_read (x1 + 2).toNatClampNeg), .int (v_read (x1 + 3).toNatClampNeg)]) (rest := []) hB (c_X5_putWind l E a_t a_storey a_wind a_pair a_text a_read a_now a_image a_isKept a_row a_sight a_ways a_ends a_tried v_storeys v_jacks v_soft v_pairs v_bytes v_position v_tokenAt v_token v_digits v_number v_faultAt v_readMany v_readStoreys v_readPairs v_rows v_sights v_wind H.size (v_read (x1 + 1).toNatClampNeg) (v_read (x1 + 2).toNatClampNeg) (v_read (x1 + 3).toNatClampNeg) _ hf) sB_X5_putWind sV_X5_putWind wml_X5_158 rfl (mx_pwV hB hP hD [0, 3] (by decide) rfl rfl 5 rfl rfl rfl) hl.1 rfl (Nat.le_of_ble_eq_true rfl) dX5_doLine_216 ⟨Nat.zero_le _, Nat.zero_le _⟩) hP hD hS hA [0, 3] [1, 2, 4] 5 rfl (fun u => w_X5_doLine E a_t a_storey a_wind a_pair a_text a_read a_now a_image a_isKept a_row a_sight a_ways a_ends a_tried v_storeys v_jacks v_soft v_pairs v_bytes v_position v_tokenAt v_token v_digits v_number v_faultAt v_readMany v_readStoreys v_readPairs v_rows v_sights v_read v_pair u v_storey) (fun _ => rfl) (by decide) (fun _ => rfl) (fun _ => rfl) rfl (fun _ => rfl) (fun u H locs hf hP hD hS => ?_)
                    obtain ⟨u4, rfl⟩ : ∃ z, z = u := ⟨_, rfl⟩
                    have hP : va_P E.1 vwCl (w_X5_doLine E a_t a_storey a_wind a_pair a_text a_read a_now a_image a_isKept a_row a_sight a_ways a_ends a_tried v_storeys v_jacks v_soft v_pairs v_bytes v_position v_tokenAt v_token v_digits v_number v_faultAt v_readMany v_readStoreys v_readPairs v_rows v_sights v_read v_pair u4 v_storey) H := hP
                    have hD : va_D A (w_X5_doLine E a_t a_storey a_wind a_pair a_text a_read a_now a_image a_isKept a_row a_sight a_ways a_ends a_tried v_storeys v_jacks v_soft v_pairs v_bytes v_position v_tokenAt v_token v_digits v_number v_faultAt v_readMany v_readStoreys v_readPairs v_rows v_sights v_read v_pair u4 v_storey) := hD
                    refine lv_goto (tgt := 258) hx hb dX5_doLine_219 (by decide) ?_
                    exact hRet (v_pair, v_pairs, u4, v_soft, v_jacks, v_storey, v_storeys) 258 ls H locs dX5_doLine_258 hf hP hS
                  · have hf := hf.2 c24_8
                    refine lv_tableOut (tgt := 222) hx hb dX5_doLine_24 (mx_out 0 8 [0, 1, 2, 3, 4, 5, 6, 7, 8] (List.forall_mem_cons.mpr ⟨c24_0, (List.forall_mem_cons.mpr ⟨c24_1, (List.forall_mem_cons.mpr ⟨c24_2, (List.forall_mem_cons.mpr ⟨c24_3, (List.forall_mem_cons.mpr ⟨c24_4, (List.forall_mem_cons.mpr ⟨c24_5, (List.forall_mem_cons.mpr ⟨c24_6, (List.forall_mem_cons.mpr ⟨c24_7, (List.forall_mem_cons.mpr ⟨c24_8, (fun _ h => absurd h List.not_mem_nil)⟩)⟩)⟩)⟩)⟩)⟩)⟩)⟩)⟩) (by decide)) (by decide) ?_
                    refine lv_aload_n hx hb dX5_doLine_222 rfl (lv_at hl 2 rfl) ?_
                    refine gf_X5_23 hB hP 0 rfl rfl dX5_doLine_223 ?_
                    refine lv_iconst hx hb dX5_doLine_226 kc_i_2 ?_
                    refine lv_aload_n hx hb dX5_doLine_227 rfl (lv_at hl 2 rfl) ?_
                    refine gf_X5_149 hB hP 0 rfl rfl dX5_doLine_228 ?_
                    refine lv_imul hx hb dX5_doLine_231 ?_
                    refine lv_iload_n hx hb dX5_doLine_232 rfl (lv_at hl 1 rfl) ?_
                    obtain ⟨h_in, hf⟩ := hf
                    refine va_iast hx hb hB.K hP hD hS 2 0 rfl rfl h_in dX5_doLine_233 (fun H locs hP hD hS => ?_)
                    have hP : va_P E.1 vwCl (w_X5_doLine E a_t a_storey a_wind a_pair a_text a_read a_now a_image a_isKept a_row a_sight a_ways a_ends a_tried v_storeys v_jacks v_soft v_pairs v_bytes v_position v_tokenAt v_token v_digits v_number v_faultAt v_readMany v_readStoreys v_readPairs v_rows v_sights v_read (upd v_pair (2 * v_pairs).toNatClampNeg (v_read (x1 + 1).toNatClampNeg)) v_wind v_storey) H := hP
                    have hD : va_D A (w_X5_doLine E a_t a_storey a_wind a_pair a_text a_read a_now a_image a_isKept a_row a_sight a_ways a_ends a_tried v_storeys v_jacks v_soft v_pairs v_bytes v_position v_tokenAt v_token v_digits v_number v_faultAt v_readMany v_readStoreys v_readPairs v_rows v_sights v_read (upd v_pair (2 * v_pairs).toNatClampNeg (v_read (x1 + 1).toNatClampNeg)) v_wind v_storey) := hD
                    refine lv_aload_n hx hb dX5_doLine_234 rfl (lv_at hl 2 rfl) ?_
                    refine gf_X5_23 hB hP 0 rfl rfl dX5_doLine_235 ?_
                    refine lv_iconst hx hb dX5_doLine_238 kc_i_2 ?_
                    refine lv_aload_n hx hb dX5_doLine_239 rfl (lv_at hl 2 rfl) ?_
                    refine gf_X5_149 hB hP 0 rfl rfl dX5_doLine_240 ?_
                    refine lv_imul hx hb dX5_doLine_243 ?_
                    refine lv_iconst hx hb dX5_doLine_244 kc_i_1 ?_
                    refine lv_iadd hx hb dX5_doLine_245 ?_
                    refine lv_iload_n hx hb dX5_doLine_246 rfl (lv_at hl 0 rfl) ?_
                    obtain ⟨h_in, hf⟩ := hf
                    refine va_iast hx hb hB.K hP hD hS 2 0 rfl rfl h_in dX5_doLine_247 (fun H locs hP hD hS => ?_)
                    have hP : va_P E.1 vwCl (w_X5_doLine E a_t a_storey a_wind a_pair a_text a_read a_now a_image a_isKept a_row a_sight a_ways a_ends a_tried v_storeys v_jacks v_soft v_pairs v_bytes v_position v_tokenAt v_token v_digits v_number v_faultAt v_readMany v_readStoreys v_readPairs v_rows v_sights v_read (upd (upd v_pair (2 * v_pairs).toNatClampNeg (v_read (x1 + 1).toNatClampNeg)) ((2 * v_pairs) + 1).toNatClampNeg (v_read (x1 + 2).toNatClampNeg)) v_wind v_storey) H := hP
                    have hD : va_D A (w_X5_doLine E a_t a_storey a_wind a_pair a_text a_read a_now a_image a_isKept a_row a_sight a_ways a_ends a_tried v_storeys v_jacks v_soft v_pairs v_bytes v_position v_tokenAt v_token v_digits v_number v_faultAt v_readMany v_readStoreys v_readPairs v_rows v_sights v_read (upd (upd v_pair (2 * v_pairs).toNatClampNeg (v_read (x1 + 1).toNatClampNeg)) ((2 * v_pairs) + 1).toNatClampNeg (v_read (x1 + 2).toNatClampNeg)) v_wind v_storey) := hD
                    refine lv_aload_n hx hb dX5_doLine_248 rfl (lv_at hl 2 rfl) ?_
                    refine lv_dup hx hb dX5_doLine_249 rfl ?_
                    refine gf_X5_149 hB hP 0 rfl rfl dX5_doLine_250 ?_
                    refine lv_iconst hx hb dX5_doLine_253 kc_i_1 ?_
                    refine lv_iadd hx hb dX5_doLine_254 ?_
                    refine pf_X5_149 hB hP hD hS 0 rfl (Nat.le_of_ble_eq_true rfl) dX5_doLine_255 (w_X5_doLine E a_t a_storey a_wind a_pair a_text a_read a_now a_image a_isKept a_row a_sight a_ways a_ends a_tried v_storeys v_jacks v_soft (v_pairs + 1) v_bytes v_position v_tokenAt v_token v_digits v_number v_faultAt v_readMany v_readStoreys v_readPairs v_rows v_sights v_read (upd (upd v_pair (2 * v_pairs).toNatClampNeg (v_read (x1 + 1).toNatClampNeg)) ((2 * v_pairs) + 1).toNatClampNeg (v_read (x1 + 2).toNatClampNeg)) v_wind v_storey) rfl (fun H locs hP hD hS => ?_)
                    exact hRet (upd (upd v_pair (2 * v_pairs).toNatClampNeg (v_read (x1 + 1).toNatClampNeg)) ((2 * v_pairs) + 1).toNatClampNeg (v_read (x1 + 2).toNatClampNeg), v_pairs + 1, v_wind, v_soft, v_jacks, v_storey, v_storeys) 258 ls H locs dX5_doLine_258 hf hP hS
theorem c_X5_doLine (l : Launch) (E : mx_E) (a_t : Nat) (a_storey : Nat) (a_wind : Nat) (a_pair : Nat) (a_text : Nat) (a_read : Nat) (a_now : Nat) (a_image : Nat) (a_isKept : Nat) (a_row : Nat) (a_sight : Nat) (a_ways : Nat) (a_ends : Nat) (a_tried : Nat) (v_storeys : Int32) (v_jacks : Int32) (v_soft : Int32) (v_pairs : Int32) (v_bytes : Int32) (v_position : Int32) (v_tokenAt : Int32) (v_token : Int64) (v_digits : Int32) (v_number : Int32) (v_faultAt : Int32) (v_readMany : Int32) (v_readStoreys : Int32) (v_readPairs : Int32) (v_rows : Int32) (v_sights : Int32) (v_read : (Nat → Int32)) (v_pair : (Nat → Int32)) (v_wind : (Nat → Int32)) (v_storey : (Nat → Int32)) (sz : Nat) (x1 : Int32) (post : (Nat → Int32) → Int32 → (Nat → Int32) → Int32 → Int32 → (Nat → Int32) → Int32 → Prop) (hf : f_X5_doLine v_read v_pair v_pairs v_wind v_soft v_jacks v_storey v_storeys x1 post) : Met l yX5_doLine (Cond.code yX5_doLine cX5_doLine 5 none :: mx_WS) rm_X5_doLine (va_Pc [.ref a_t, .int x1] (mx_Pw E (w_X5_doLine E a_t a_storey a_wind a_pair a_text a_read a_now a_image a_isKept a_row a_sight a_ways a_ends a_tried v_storeys v_jacks v_soft v_pairs v_bytes v_position v_tokenAt v_token v_digits v_number v_faultAt v_readMany v_readStoreys v_readPairs v_rows v_sights v_read v_pair v_wind v_storey) sz)) (va_Qv (fun (u : (Nat → Int32) × Int32 × (Nat → Int32) × Int32 × Int32 × (Nat → Int32) × Int32) => post u.1 u.2.1 u.2.2.1 u.2.2.2.1 u.2.2.2.2.1 u.2.2.2.2.2.1 u.2.2.2.2.2.2) (fun u t => va_P E.1 vwCl (w_X5_doLine E a_t a_storey a_wind a_pair a_text a_read a_now a_image a_isKept a_row a_sight a_ways a_ends a_tried u.2.2.2.2.2.2 u.2.2.2.2.1 u.2.2.2.1 u.2.1 v_bytes v_position v_tokenAt v_token v_digits v_number v_faultAt v_readMany v_readStoreys v_readPairs v_rows v_sights v_read u.1 u.2.2.1 u.2.2.2.2.2.1) t.heap) (va_A (w_X5_doLine E a_t a_storey a_wind a_pair a_text a_read a_now a_image a_isKept a_row a_sight a_ways a_ends a_tried v_storeys v_jacks v_soft v_pairs v_bytes v_position v_tokenAt v_token v_digits v_number v_faultAt v_readMany v_readStoreys v_readPairs v_rows v_sights v_read v_pair v_wind v_storey) sz)) 0 0 (va_A (w_X5_doLine E a_t a_storey a_wind a_pair a_text a_read a_now a_image a_isKept a_row a_sight a_ways a_ends a_tried v_storeys v_jacks v_soft v_pairs v_bytes v_position v_tokenAt v_token v_digits v_number v_faultAt v_readMany v_readStoreys v_readPairs v_rows v_sights v_read v_pair v_wind v_storey) sz) :=
  mx_metWv (by decide) rfl rfl (fun hB hP hD hA hRet ls hl => b_X5_doLine E a_t a_storey a_wind a_pair a_text a_read a_now a_image a_isKept a_row a_sight a_ways a_ends a_tried v_storeys v_jacks v_soft v_pairs v_bytes v_position v_tokenAt v_token v_digits v_number v_faultAt v_readMany v_readStoreys v_readPairs v_rows v_sights v_read v_pair v_wind v_storey x1 post hB hP hD hA hRet hf ls hl)
def rm_X5_site : Room := { frames := 7, cells := 0, slots := 0, locals := 151 }
set_option maxHeartbeats 4000000 in
set_option maxRecDepth 100000 in
theorem b_X5_site {p : Program} {l : Launch} {e : Env} {s : State} {m : MethodId} {args : Array Value} {below : List Frame} {meth : Method} {c : Code} {Q : State → Prop} {A : Nat → Prop} (E : mx_E) (a_t : Nat) (a_storey : Nat) (a_wind : Nat) (a_pair : Nat) (a_text : Nat) (a_read : Nat) (a_now : Nat) (a_image : Nat) (a_isKept : Nat) (a_row : Nat) (a_sight : Nat) (a_ways : Nat) (a_ends : Nat) (a_tried : Nat) (v_storeys : Int32) (v_jacks : Int32) (v_soft : Int32) (v_pairs : Int32) (v_bytes : Int32) (v_position : Int32) (v_tokenAt : Int32) (v_token : Int64) (v_digits : Int32) (v_number : Int32) (v_faultAt : Int32) (v_readMany : Int32) (v_readStoreys : Int32) (v_readPairs : Int32) (v_rows : Int32) (v_sights : Int32) (v_text : (Nat → Int32)) (v_read : (Nat → Int32)) (v_now : (Nat → Int32)) (v_isKept : (Nat → Int32)) (v_pair : (Nat → Int32)) (v_wind : (Nat → Int32)) (v_storey : (Nat → Int32))  (post : Int32 → Int32 → Int32 → Int32 → Int32 → Int32 → Int32 → Int32 → Int32 → Int64 → (Nat → Int32) → Int32 → (Nat → Int32) → Int32 → Int32 → (Nat → Int32) → (Nat → Int32) → Int32 → (Nat → Int32) → Int32 → Int32 → (Nat → Int32) → Int32 → Prop) (hB : mx_B p m c cX5_site 2 s args RX5 E) (hP : va_P E.1 vwCl (w_X5_site E a_t a_storey a_wind a_pair a_text a_read a_now a_image a_isKept a_row a_sight a_ways a_ends a_tried v_storeys v_jacks v_soft v_pairs v_bytes v_position v_tokenAt v_token v_digits v_number v_faultAt v_readMany v_readStoreys v_readPairs v_rows v_sights v_text v_read v_now v_isKept v_pair v_wind v_storey) s.heap) (hD : va_D A (w_X5_site E a_t a_storey a_wind a_pair a_text a_read a_now a_image a_isKept a_row a_sight a_ways a_ends a_tried v_storeys v_jacks v_soft v_pairs v_bytes v_position v_tokenAt v_token v_digits v_number v_faultAt v_readMany v_readStoreys v_readPairs v_rows v_sights v_text v_read v_now v_isKept v_pair v_wind v_storey)) (hA : ∀ q : Nat, s.heap.size ≤ q → A q) (hRet : ∀ (v : Int32) (u : Int32 × Int32 × Int32 × Int32 × Int32 × Int32 × Int32 × Int32 × Int64 × (Nat → Int32) × Int32 × (Nat → Int32) × Int32 × Int32 × (Nat → Int32) × (Nat → Int32) × Int32 × (Nat → Int32) × Int32 × Int32 × (Nat → Int32) × Int32) (pc : Nat) (ls : Array Slot) (H : Heap) (locs : List Loc), decode cX5_site pc = .ok (.ireturn, 1) → post v u.1 u.2.1 u.2.2.1 u.2.2.2.1 u.2.2.2.2.1 u.2.2.2.2.2.1 u.2.2.2.2.2.2.1 u.2.2.2.2.2.2.2.1 u.2.2.2.2.2.2.2.2.1 u.2.2.2.2.2.2.2.2.2.1 u.2.2.2.2.2.2.2.2.2.2.1 u.2.2.2.2.2.2.2.2.2.2.2.1 u.2.2.2.2.2.2.2.2.2.2.2.2.1 u.2.2.2.2.2.2.2.2.2.2.2.2.2.1 u.2.2.2.2.2.2.2.2.2.2.2.2.2.2.1 u.2.2.2.2.2.2.2.2.2.2.2.2.2.2.2.1 u.2.2.2.2.2.2.2.2.2.2.2.2.2.2.2.2.1 u.2.2.2.2.2.2.2.2.2.2.2.2.2.2.2.2.2.1 u.2.2.2.2.2.2.2.2.2.2.2.2.2.2.2.2.2.2.1 u.2.2.2.2.2.2.2.2.2.2.2.2.2.2.2.2.2.2.2.1 u.2.2.2.2.2.2.2.2.2.2.2.2.2.2.2.2.2.2.2.2.1 u.2.2.2.2.2.2.2.2.2.2.2.2.2.2.2.2.2.2.2.2.2 → va_P E.1 vwCl (w_X5_site E a_t a_storey a_wind a_pair a_text a_read a_now a_image a_isKept a_row a_sight a_ways a_ends a_tried u.2.2.2.2.2.2.2.2.2.2.2.2.2.2.2.2.2.2.2.2.2 u.2.2.2.2.2.2.2.2.2.2.2.2.2.2.2.2.2.2.2.1 u.2.2.2.2.2.2.2.2.2.2.2.2.2.2.2.2.2.2.1 u.2.2.2.2.2.2.2.2.2.2.2.2.2.2.2.2.1 u.2.2.2.2.2.2.2.2.2.2.1 u.1 u.2.2.2.2.2.1 u.2.2.2.2.2.2.2.2.1 u.2.2.2.2.2.2.1 u.2.2.2.2.2.2.2.1 u.2.2.2.2.1 u.2.1 u.2.2.1 u.2.2.2.1 u.2.2.2.2.2.2.2.2.2.2.2.2.1 u.2.2.2.2.2.2.2.2.2.2.2.2.2.1 v_text u.2.2.2.2.2.2.2.2.2.1 u.2.2.2.2.2.2.2.2.2.2.2.1 u.2.2.2.2.2.2.2.2.2.2.2.2.2.2.1 u.2.2.2.2.2.2.2.2.2.2.2.2.2.2.2.1 u.2.2.2.2.2.2.2.2.2.2.2.2.2.2.2.2.2.1 u.2.2.2.2.2.2.2.2.2.2.2.2.2.2.2.2.2.2.2.2.1) H → va_S A s.heap H locs → W p l e rm_X5_site s m args below meth c H locs 0 0 Q (F0 m pc ls [.int v])) (hf : f_X5_site v_text v_position v_readMany v_readStoreys v_readPairs v_faultAt v_tokenAt v_digits v_number v_token v_read v_bytes v_now v_rows v_sights v_isKept v_pair v_pairs v_wind v_soft v_jacks v_storey v_storeys post) (ls : Array Slot) (hl : lv_has ls 2 [(0, .ref a_t)]) : W p l e rm_X5_site s m args below meth c s.heap [] 0 0 Q (F0 m 0 ls []) := by
  have hx := hB.x
  have hb := hB.b
  have hS : va_S A s.heap s.heap [] := va_S.rf
  have J_33 : ∀ (j33_v_position : Int32) (j33_v_readMany : Int32) (j33_v_readStoreys : Int32) (j33_v_readPairs : Int32) (j33_v_faultAt : Int32) (j33_v_tokenAt : Int32) (j33_v_digits : Int32) (j33_v_number : Int32) (j33_v_token : Int64) (j33_v_read : (Nat → Int32)) (j33_v_bytes : Int32) (j33_v_now : (Nat → Int32)) (j33_v_rows : Int32) (j33_v_sights : Int32) (j33_v_isKept : (Nat → Int32)) (j33_v_pair : (Nat → Int32)) (j33_v_pairs : Int32) (j33_v_wind : (Nat → Int32)) (j33_v_soft : Int32) (j33_v_jacks : Int32) (j33_v_storey : (Nat → Int32)) (j33_v_storeys : Int32) (ls : Array Slot) (H : Heap) (locs : List Loc), f_X5_site_33 v_text post j33_v_position j33_v_readMany j33_v_readStoreys j33_v_readPairs j33_v_faultAt j33_v_tokenAt j33_v_digits j33_v_number j33_v_token j33_v_read j33_v_bytes j33_v_now j33_v_rows j33_v_sights j33_v_isKept j33_v_pair j33_v_pairs j33_v_wind j33_v_soft j33_v_jacks j33_v_storey j33_v_storeys → lv_has ls 2 [(0, .ref a_t)] → va_P E.1 vwCl (w_X5_site E a_t a_storey a_wind a_pair a_text a_read a_now a_image a_isKept a_row a_sight a_ways a_ends a_tried j33_v_storeys j33_v_jacks j33_v_soft j33_v_pairs j33_v_bytes j33_v_position j33_v_tokenAt j33_v_token j33_v_digits j33_v_number j33_v_faultAt j33_v_readMany j33_v_readStoreys j33_v_readPairs j33_v_rows j33_v_sights v_text j33_v_read j33_v_now j33_v_isKept j33_v_pair j33_v_wind j33_v_storey) H → va_D A (w_X5_site E a_t a_storey a_wind a_pair a_text a_read a_now a_image a_isKept a_row a_sight a_ways a_ends a_tried j33_v_storeys j33_v_jacks j33_v_soft j33_v_pairs j33_v_bytes j33_v_position j33_v_tokenAt j33_v_token j33_v_digits j33_v_number j33_v_faultAt j33_v_readMany j33_v_readStoreys j33_v_readPairs j33_v_rows j33_v_sights v_text j33_v_read j33_v_now j33_v_isKept j33_v_pair j33_v_wind j33_v_storey) → va_S A s.heap H locs → W p l e rm_X5_site s m args below meth c H locs 0 0 Q (F0 m 33 ls []) := by
    intro j33_v_position j33_v_readMany j33_v_readStoreys j33_v_readPairs j33_v_faultAt j33_v_tokenAt j33_v_digits j33_v_number j33_v_token j33_v_read j33_v_bytes j33_v_now j33_v_rows j33_v_sights j33_v_isKept j33_v_pair j33_v_pairs j33_v_wind j33_v_soft j33_v_jacks j33_v_storey j33_v_storeys ls H locs hf hl hP hD hS
    refine lv_aload_n hx hb dX5_site_33 rfl (lv_at hl 0 rfl) ?_
    refine lv_iconst hx hb dX5_site_34 kc_i_0 ?_
    refine pf_X5_64 hB hP hD hS 0 rfl (Nat.le_of_ble_eq_true rfl) dX5_site_35 (w_X5_site E a_t a_storey a_wind a_pair a_text a_read a_now a_image a_isKept a_row a_sight a_ways a_ends a_tried j33_v_storeys j33_v_jacks j33_v_soft j33_v_pairs 0 j33_v_position j33_v_tokenAt j33_v_token j33_v_digits j33_v_number j33_v_faultAt j33_v_readMany j33_v_readStoreys j33_v_readPairs j33_v_rows j33_v_sights v_text j33_v_read j33_v_now j33_v_isKept j33_v_pair j33_v_wind j33_v_storey) rfl (fun H locs hP hD hS => ?_)
    refine lv_aload_n hx hb dX5_site_38 rfl (lv_at hl 0 rfl) ?_
    refine gf_X5_32 hB hP 0 rfl rfl dX5_site_39 ?_
    refine lv_iconst hx hb dX5_site_42 kc_i_0 ?_
    refine lv_iconst hx hb dX5_site_43 kc_i_0 ?_
    obtain ⟨h_in, hf⟩ := hf
    refine va_iast hx hb hB.K hP hD hS 3 0 rfl rfl h_in dX5_site_44 (fun H locs hP hD hS => ?_)
    have hP : va_P E.1 vwCl (w_X5_site E a_t a_storey a_wind a_pair a_text a_read a_now a_image a_isKept a_row a_sight a_ways a_ends a_tried j33_v_storeys j33_v_jacks j33_v_soft j33_v_pairs 0 j33_v_position j33_v_tokenAt j33_v_token j33_v_digits j33_v_number j33_v_faultAt j33_v_readMany j33_v_readStoreys j33_v_readPairs j33_v_rows j33_v_sights v_text j33_v_read (upd j33_v_now (0 : Int32).toNatClampNeg 0) j33_v_isKept j33_v_pair j33_v_wind j33_v_storey) H := hP
    have hD : va_D A (w_X5_site E a_t a_storey a_wind a_pair a_text a_read a_now a_image a_isKept a_row a_sight a_ways a_ends a_tried j33_v_storeys j33_v_jacks j33_v_soft j33_v_pairs 0 j33_v_position j33_v_tokenAt j33_v_token j33_v_digits j33_v_number j33_v_faultAt j33_v_readMany j33_v_readStoreys j33_v_readPairs j33_v_rows j33_v_sights v_text j33_v_read (upd j33_v_now (0 : Int32).toNatClampNeg 0) j33_v_isKept j33_v_pair j33_v_wind j33_v_storey) := hD
    refine lv_aload_n hx hb dX5_site_45 rfl (lv_at hl 0 rfl) ?_
    refine gf_X5_32 hB hP 0 rfl rfl dX5_site_46 ?_
    refine lv_iconst hx hb dX5_site_49 kc_i_1 ?_
    refine lv_iconst hx hb dX5_site_50 kc_i_0 ?_
    obtain ⟨h_in, hf⟩ := hf
    refine va_iast hx hb hB.K hP hD hS 3 0 rfl rfl h_in dX5_site_51 (fun H locs hP hD hS => ?_)
    have hP : va_P E.1 vwCl (w_X5_site E a_t a_storey a_wind a_pair a_text a_read a_now a_image a_isKept a_row a_sight a_ways a_ends a_tried j33_v_storeys j33_v_jacks j33_v_soft j33_v_pairs 0 j33_v_position j33_v_tokenAt j33_v_token j33_v_digits j33_v_number j33_v_faultAt j33_v_readMany j33_v_readStoreys j33_v_readPairs j33_v_rows j33_v_sights v_text j33_v_read (upd (upd j33_v_now (0 : Int32).toNatClampNeg 0) (1 : Int32).toNatClampNeg 0) j33_v_isKept j33_v_pair j33_v_wind j33_v_storey) H := hP
    have hD : va_D A (w_X5_site E a_t a_storey a_wind a_pair a_text a_read a_now a_image a_isKept a_row a_sight a_ways a_ends a_tried j33_v_storeys j33_v_jacks j33_v_soft j33_v_pairs 0 j33_v_position j33_v_tokenAt j33_v_token j33_v_digits j33_v_number j33_v_faultAt j33_v_readMany j33_v_readStoreys j33_v_readPairs j33_v_rows j33_v_sights v_text j33_v_read (upd (upd j33_v_now (0 : Int32).toNatClampNeg 0) (1 : Int32).toNatClampNeg 0) j33_v_isKept j33_v_pair j33_v_wind j33_v_storey) := hD
    refine lv_aload_n hx hb dX5_site_52 rfl (lv_at hl 0 rfl) ?_
    refine lv_iconst hx hb dX5_site_53 kc_i_0 ?_
    refine pf_X5_166 hB hP hD hS 0 rfl (Nat.le_of_ble_eq_true rfl) dX5_site_54 (w_X5_site E a_t a_storey a_wind a_pair a_text a_read a_now a_image a_isKept a_row a_sight a_ways a_ends a_tried j33_v_storeys j33_v_jacks j33_v_soft j33_v_pairs 0 j33_v_position j33_v_tokenAt j33_v_token j33_v_digits j33_v_number j33_v_faultAt j33_v_readMany j33_v_readStoreys j33_v_readPairs 0 j33_v_sights v_text j33_v_read (upd (upd j33_v_now (0 : Int32).toNatClampNeg 0) (1 : Int32).toNatClampNeg 0) j33_v_isKept j33_v_pair j33_v_wind j33_v_storey) rfl (fun H locs hP hD hS => ?_)
    refine lv_aload_n hx hb dX5_site_57 rfl (lv_at hl 0 rfl) ?_
    refine lv_iconst hx hb dX5_site_58 kc_i_0 ?_
    refine pf_X5_169 hB hP hD hS 0 rfl (Nat.le_of_ble_eq_true rfl) dX5_site_59 (w_X5_site E a_t a_storey a_wind a_pair a_text a_read a_now a_image a_isKept a_row a_sight a_ways a_ends a_tried j33_v_storeys j33_v_jacks j33_v_soft j33_v_pairs 0 j33_v_position j33_v_tokenAt j33_v_token j33_v_digits j33_v_number j33_v_faultAt j33_v_readMany j33_v_readStoreys j33_v_readPairs 0 0 v_text j33_v_read (upd (upd j33_v_now (0 : Int32).toNatClampNeg 0) (1 : Int32).toNatClampNeg 0) j33_v_isKept j33_v_pair j33_v_wind j33_v_storey) rfl (fun H locs hP hD hS => ?_)
    refine lv_aload_n hx hb dX5_site_62 rfl (lv_at hl 0 rfl) ?_
    refine gf_X5_38 hB hP 0 rfl rfl dX5_site_63 ?_
    refine lv_iconst hx hb dX5_site_66 kc_i_0 ?_
    refine lv_iconst hx hb dX5_site_67 kc_i_0 ?_
    obtain ⟨h_in, hf⟩ := hf
    refine va_zast hx hb hB.K hP hD hS 4 2 rfl rfl h_in dX5_site_68 (fun H locs hP hD hS => ?_)
    have hP : va_P E.1 vwCl (w_X5_site E a_t a_storey a_wind a_pair a_text a_read a_now a_image a_isKept a_row a_sight a_ways a_ends a_tried j33_v_storeys j33_v_jacks j33_v_soft j33_v_pairs 0 j33_v_position j33_v_tokenAt j33_v_token j33_v_digits j33_v_number j33_v_faultAt j33_v_readMany j33_v_readStoreys j33_v_readPairs 0 0 v_text j33_v_read (upd (upd j33_v_now (0 : Int32).toNatClampNeg 0) (1 : Int32).toNatClampNeg 0) (upd j33_v_isKept (0 : Int32).toNatClampNeg (vp_nar .boolean 0)) j33_v_pair j33_v_wind j33_v_storey) H := hP
    have hD : va_D A (w_X5_site E a_t a_storey a_wind a_pair a_text a_read a_now a_image a_isKept a_row a_sight a_ways a_ends a_tried j33_v_storeys j33_v_jacks j33_v_soft j33_v_pairs 0 j33_v_position j33_v_tokenAt j33_v_token j33_v_digits j33_v_number j33_v_faultAt j33_v_readMany j33_v_readStoreys j33_v_readPairs 0 0 v_text j33_v_read (upd (upd j33_v_now (0 : Int32).toNatClampNeg 0) (1 : Int32).toNatClampNeg 0) (upd j33_v_isKept (0 : Int32).toNatClampNeg (vp_nar .boolean 0)) j33_v_pair j33_v_wind j33_v_storey) := hD
    refine lv_aload_n hx hb dX5_site_69 rfl (lv_at hl 0 rfl) ?_
    refine gf_X5_38 hB hP 0 rfl rfl dX5_site_70 ?_
    refine lv_iconst hx hb dX5_site_73 kc_i_1 ?_
    refine lv_iconst hx hb dX5_site_74 kc_i_0 ?_
    obtain ⟨h_in, hf⟩ := hf
    refine va_zast hx hb hB.K hP hD hS 4 2 rfl rfl h_in dX5_site_75 (fun H locs hP hD hS => ?_)
    have hP : va_P E.1 vwCl (w_X5_site E a_t a_storey a_wind a_pair a_text a_read a_now a_image a_isKept a_row a_sight a_ways a_ends a_tried j33_v_storeys j33_v_jacks j33_v_soft j33_v_pairs 0 j33_v_position j33_v_tokenAt j33_v_token j33_v_digits j33_v_number j33_v_faultAt j33_v_readMany j33_v_readStoreys j33_v_readPairs 0 0 v_text j33_v_read (upd (upd j33_v_now (0 : Int32).toNatClampNeg 0) (1 : Int32).toNatClampNeg 0) (upd (upd j33_v_isKept (0 : Int32).toNatClampNeg (vp_nar .boolean 0)) (1 : Int32).toNatClampNeg (vp_nar .boolean 0)) j33_v_pair j33_v_wind j33_v_storey) H := hP
    have hD : va_D A (w_X5_site E a_t a_storey a_wind a_pair a_text a_read a_now a_image a_isKept a_row a_sight a_ways a_ends a_tried j33_v_storeys j33_v_jacks j33_v_soft j33_v_pairs 0 j33_v_position j33_v_tokenAt j33_v_token j33_v_digits j33_v_number j33_v_faultAt j33_v_readMany j33_v_readStoreys j33_v_readPairs 0 0 v_text j33_v_read (upd (upd j33_v_now (0 : Int32).toNatClampNeg 0) (1 : Int32).toNatClampNeg 0) (upd (upd j33_v_isKept (0 : Int32).toNatClampNeg (vp_nar .boolean 0)) (1 : Int32).toNatClampNeg (vp_nar .boolean 0)) j33_v_pair j33_v_wind j33_v_storey) := hD
    refine lv_aload_n hx hb dX5_site_76 rfl (lv_at hl 0 rfl) ?_
    refine gf_X5_146 hB hP 0 rfl rfl dX5_site_77 ?_
    exact hRet j33_v_readMany (j33_v_position, j33_v_readMany, j33_v_readStoreys, j33_v_readPairs, j33_v_faultAt, j33_v_tokenAt, j33_v_digits, j33_v_number, j33_v_token, j33_v_read, 0, upd (upd j33_v_now (0 : Int32).toNatClampNeg 0) (1 : Int32).toNatClampNeg 0, 0, 0, upd (upd j33_v_isKept (0 : Int32).toNatClampNeg (vp_nar .boolean 0)) (1 : Int32).toNatClampNeg (vp_nar .boolean 0), j33_v_pair, j33_v_pairs, j33_v_wind, j33_v_soft, j33_v_jacks, j33_v_storey, j33_v_storeys) 80 ls H locs dX5_site_80 hf hP hS
  have L_12 : ∀ (g12_v_position : Int32) (g12_v_readMany : Int32) (g12_v_readStoreys : Int32) (g12_v_readPairs : Int32) (g12_v_faultAt : Int32) (g12_v_tokenAt : Int32) (g12_v_digits : Int32) (g12_v_number : Int32) (g12_v_token : Int64) (g12_v_read : (Nat → Int32)) (g12_v_bytes : Int32) (g12_v_now : (Nat → Int32)) (g12_v_rows : Int32) (g12_v_sights : Int32) (g12_v_isKept : (Nat → Int32)) (n : Nat) (j12_x1 : Int32) (j12_v_pair : (Nat → Int32)) (j12_v_pairs : Int32) (j12_v_wind : (Nat → Int32)) (j12_v_soft : Int32) (j12_v_jacks : Int32) (j12_v_storey : (Nat → Int32)) (j12_v_storeys : Int32) (ls : Array Slot) (H : Heap) (locs : List Loc), mx_l8 (f_X5_site_12 v_text post g12_v_position g12_v_readMany g12_v_readStoreys g12_v_readPairs g12_v_faultAt g12_v_tokenAt g12_v_digits g12_v_number g12_v_token g12_v_read g12_v_bytes g12_v_now g12_v_rows g12_v_sights g12_v_isKept) n j12_x1 j12_v_pair j12_v_pairs j12_v_wind j12_v_soft j12_v_jacks j12_v_storey j12_v_storeys → lv_has ls 2 [(0, .ref a_t), (1, .int j12_x1)] → va_P E.1 vwCl (w_X5_site E a_t a_storey a_wind a_pair a_text a_read a_now a_image a_isKept a_row a_sight a_ways a_ends a_tried j12_v_storeys j12_v_jacks j12_v_soft j12_v_pairs g12_v_bytes g12_v_position g12_v_tokenAt g12_v_token g12_v_digits g12_v_number g12_v_faultAt g12_v_readMany g12_v_readStoreys g12_v_readPairs g12_v_rows g12_v_sights v_text g12_v_read g12_v_now g12_v_isKept j12_v_pair j12_v_wind j12_v_storey) H → va_D A (w_X5_site E a_t a_storey a_wind a_pair a_text a_read a_now a_image a_isKept a_row a_sight a_ways a_ends a_tried j12_v_storeys j12_v_jacks j12_v_soft j12_v_pairs g12_v_bytes g12_v_position g12_v_tokenAt g12_v_token g12_v_digits g12_v_number g12_v_faultAt g12_v_readMany g12_v_readStoreys g12_v_readPairs g12_v_rows g12_v_sights v_text g12_v_read g12_v_now g12_v_isKept j12_v_pair j12_v_wind j12_v_storey) → va_S A s.heap H locs → W p l e rm_X5_site s m args below meth c H locs 0 0 Q (F0 m 12 ls []) := by
    intro g12_v_position g12_v_readMany g12_v_readStoreys g12_v_readPairs g12_v_faultAt g12_v_tokenAt g12_v_digits g12_v_number g12_v_token g12_v_read g12_v_bytes g12_v_now g12_v_rows g12_v_sights g12_v_isKept n_12
    induction n_12 with
    | zero =>
      intro j12_x1 j12_v_pair j12_v_pairs j12_v_wind j12_v_soft j12_v_jacks j12_v_storey j12_v_storeys ls H locs hf hl hP hD hS
      exact False.elim hf
    | succ n_12 ih_12 =>
      intro j12_x1 j12_v_pair j12_v_pairs j12_v_wind j12_v_soft j12_v_jacks j12_v_storey j12_v_storeys ls H locs hf hl hP hD hS
      replace hf : f_X5_site_12 v_text post g12_v_position g12_v_readMany g12_v_readStoreys g12_v_readPairs g12_v_faultAt g12_v_tokenAt g12_v_digits g12_v_number g12_v_token g12_v_read g12_v_bytes g12_v_now g12_v_rows g12_v_sights g12_v_isKept (mx_l8 (f_X5_site_12 v_text post g12_v_position g12_v_readMany g12_v_readStoreys g12_v_readPairs g12_v_faultAt g12_v_tokenAt g12_v_digits g12_v_number g12_v_token g12_v_read g12_v_bytes g12_v_now g12_v_rows g12_v_sights g12_v_isKept) n_12) j12_x1 j12_v_pair j12_v_pairs j12_v_wind j12_v_soft j12_v_jacks j12_v_storey j12_v_storeys := hf
      refine lv_iload_n hx hb dX5_site_12 rfl (lv_at hl 1 rfl) ?_
      refine lv_aload_n hx hb dX5_site_13 rfl (lv_at hl 0 rfl) ?_
      refine gf_X5_146 hB hP 0 rfl rfl dX5_site_14 ?_
      refine lv_icmp_ge (tgt := 33) hx hb dX5_site_17 (by decide) (fun c17 => ?_) (fun c17 => ?_)
      · have hf := hf.1 c17
        exact J_33 g12_v_position g12_v_readMany g12_v_readStoreys g12_v_readPairs g12_v_faultAt g12_v_tokenAt g12_v_digits g12_v_number g12_v_token g12_v_read g12_v_bytes g12_v_now g12_v_rows g12_v_sights g12_v_isKept j12_v_pair j12_v_pairs j12_v_wind j12_v_soft j12_v_jacks j12_v_storey j12_v_storeys ls H locs hf (lv_sub hl [0] rfl) hP hD hS
      · have hf := hf.2 c17
        refine lv_aload_n hx hb dX5_site_20 rfl (lv_at hl 0 rfl) ?_
        refine lv_iconst hx hb dX5_site_21 kc_i_5 ?_
        refine lv_iload_n hx hb dX5_site_22 rfl (lv_at hl 1 rfl) ?_
        refine lv_imul hx hb dX5_site_23 ?_
        refine mx_wv (mx_runV (As := [.int (5 * j12_x1)]) (rest := []) hB (c_X5_doLine l E a_t a_storey a_wind a_pair a_text a_read a_now a_image a_isKept a_row a_sight a_ways a_ends a_tried j12_v_storeys j12_v_jacks j12_v_soft j12_v_pairs g12_v_bytes g12_v_position g12_v_tokenAt g12_v_token g12_v_digits g12_v_number g12_v_faultAt g12_v_readMany g12_v_readStoreys g12_v_readPairs g12_v_rows g12_v_sights g12_v_read j12_v_pair j12_v_wind j12_v_storey H.size (5 * j12_x1) _ hf) sB_X5_doLine sV_X5_doLine wml_X5_162 rfl (mx_pwV hB hP hD [0, 2, 5, 6, 7] (by decide) rfl rfl 5 rfl rfl rfl) hl.1 rfl (Nat.le_of_ble_eq_true rfl) dX5_site_24 ⟨Nat.zero_le _, Nat.zero_le _⟩) hP hD hS hA [0, 2, 5, 6, 7] [1, 3, 4] 8 rfl (fun u => w_X5_site E a_t a_storey a_wind a_pair a_text a_read a_now a_image a_isKept a_row a_sight a_ways a_ends a_tried u.2.2.2.2.2.2 u.2.2.2.2.1 u.2.2.2.1 u.2.1 g12_v_bytes g12_v_position g12_v_tokenAt g12_v_token g12_v_digits g12_v_number g12_v_faultAt g12_v_readMany g12_v_readStoreys g12_v_readPairs g12_v_rows g12_v_sights v_text g12_v_read g12_v_now g12_v_isKept u.1 u.2.2.1 u.2.2.2.2.2.1) (fun _ => rfl) (by decide) (fun _ => rfl) (fun _ => rfl) rfl (fun _ => rfl) (fun u H locs hf hP hD hS => ?_)
        obtain ⟨u2, u3, u4, u5, u6, u7, u8⟩ := u
        have hP : va_P E.1 vwCl (w_X5_site E a_t a_storey a_wind a_pair a_text a_read a_now a_image a_isKept a_row a_sight a_ways a_ends a_tried u8 u6 u5 u3 g12_v_bytes g12_v_position g12_v_tokenAt g12_v_token g12_v_digits g12_v_number g12_v_faultAt g12_v_readMany g12_v_readStoreys g12_v_readPairs g12_v_rows g12_v_sights v_text g12_v_read g12_v_now g12_v_isKept u2 u4 u7) H := hP
        have hD : va_D A (w_X5_site E a_t a_storey a_wind a_pair a_text a_read a_now a_image a_isKept a_row a_sight a_ways a_ends a_tried u8 u6 u5 u3 g12_v_bytes g12_v_position g12_v_tokenAt g12_v_token g12_v_digits g12_v_number g12_v_faultAt g12_v_readMany g12_v_readStoreys g12_v_readPairs g12_v_rows g12_v_sights v_text g12_v_read g12_v_now g12_v_isKept u2 u4 u7) := hD
        refine lv_iinc (v := j12_x1 + 1) (lv' := [(1, .int (j12_x1 + 1)), (0, .ref a_t)]) hx hb dX5_site_27 hl (k := 1) rfl (by rw [kc_i_1]) (by decide) rfl (fun ls hl => ?_)
        refine lv_goto (tgt := 12) hx hb dX5_site_30 (by decide) ?_
        exact ih_12 (j12_x1 + 1) u2 u3 u4 u5 u6 u7 u8 ls H locs hf (lv_sub hl [1, 0] rfl) hP hD hS
  obtain ⟨H, locs, eH, eL⟩ : ∃ (H : Heap) (locs : List Loc), H = s.heap ∧ locs = [] := ⟨_, _, rfl, rfl⟩
  rw [← eH] at hP
  have hS : va_S A s.heap H locs := by rw [eH, eL]; exact hS
  show W p l e rm_X5_site s m args below meth c s.heap [] 0 0 Q (F0 m 0 ls [])
  rw [← eH, ← eL]
  refine lv_aload_n hx hb dX5_site_0 rfl (lv_at hl 0 rfl) ?_
  refine mx_wi (mx_runV (As := []) (rest := []) hB (c_X5_isRead l E a_t a_storey a_wind a_pair a_text a_read a_now a_image a_isKept a_row a_sight a_ways a_ends a_tried v_storeys v_jacks v_soft v_pairs v_bytes v_position v_tokenAt v_token v_digits v_number v_faultAt v_readMany v_readStoreys v_readPairs v_rows v_sights v_text v_read H.size  _ hf) sB_X5_isRead sV_X5_isRead wml_X5_155 rfl (mx_pwV hB hP hD [0, 1, 2] (by decide) rfl rfl 5 rfl rfl rfl) hl.1 rfl (Nat.le_of_ble_eq_true rfl) dX5_site_1 ⟨Nat.zero_le _, Nat.zero_le _⟩) hP hD hS hA [0, 1, 2] [3, 4, 5, 6, 7] 8 rfl (fun u => w_X5_site E a_t a_storey a_wind a_pair a_text a_read a_now a_image a_isKept a_row a_sight a_ways a_ends a_tried v_storeys v_jacks v_soft v_pairs v_bytes u.1 u.2.2.2.2.2.1 u.2.2.2.2.2.2.2.2.1 u.2.2.2.2.2.2.1 u.2.2.2.2.2.2.2.1 u.2.2.2.2.1 u.2.1 u.2.2.1 u.2.2.2.1 v_rows v_sights v_text u.2.2.2.2.2.2.2.2.2 v_now v_isKept v_pair v_wind v_storey) (fun _ => rfl) (by decide) (fun _ => rfl) (fun _ => rfl) rfl (fun _ => rfl) (fun r1 u H locs hf hP hD hS => ?_)
  obtain ⟨u2, u3, u4, u5, u6, u7, u8, u9, u10, u11⟩ := u
  have hP : va_P E.1 vwCl (w_X5_site E a_t a_storey a_wind a_pair a_text a_read a_now a_image a_isKept a_row a_sight a_ways a_ends a_tried v_storeys v_jacks v_soft v_pairs v_bytes u2 u7 u10 u8 u9 u6 u3 u4 u5 v_rows v_sights v_text u11 v_now v_isKept v_pair v_wind v_storey) H := hP
  have hD : va_D A (w_X5_site E a_t a_storey a_wind a_pair a_text a_read a_now a_image a_isKept a_row a_sight a_ways a_ends a_tried v_storeys v_jacks v_soft v_pairs v_bytes u2 u7 u10 u8 u9 u6 u3 u4 u5 v_rows v_sights v_text u11 v_now v_isKept v_pair v_wind v_storey) := hD
  refine lv_if_ne (tgt := 10) hx hb dX5_site_4 (by decide) (fun c4 => ?_) (fun c4 => ?_)
  · have hf := hf.1 c4
    refine lv_iconst hx hb dX5_site_10 kc_i_0 ?_
    refine lv_istore_n (lv' := [(1, .int 0), (0, .ref a_t)]) hx hb dX5_site_11 rfl hl (by decide) rfl (fun ls hl => ?_)
    obtain ⟨n9, hf⟩ := hf
    exact L_12 u2 u3 u4 u5 u6 u7 u8 u9 u10 u11 v_bytes v_now v_rows v_sights v_isKept n9 0 v_pair v_pairs v_wind v_soft v_jacks v_storey v_storeys ls H locs hf (lv_sub hl [1, 0] rfl) hP hD hS
  · have hf := hf.2 c4
    refine lv_bipush hx hb dX5_site_7 kc_b_m4 ?_
    exact hRet (-4) (u2, u3, u4, u5, u6, u7, u8, u9, u10, u11, v_bytes, v_now, v_rows, v_sights, v_isKept, v_pair, v_pairs, v_wind, v_soft, v_jacks, v_storey, v_storeys) 9 ls H locs dX5_site_9 hf hP hS
theorem c_X5_site (l : Launch) (E : mx_E) (a_t : Nat) (a_storey : Nat) (a_wind : Nat) (a_pair : Nat) (a_text : Nat) (a_read : Nat) (a_now : Nat) (a_image : Nat) (a_isKept : Nat) (a_row : Nat) (a_sight : Nat) (a_ways : Nat) (a_ends : Nat) (a_tried : Nat) (v_storeys : Int32) (v_jacks : Int32) (v_soft : Int32) (v_pairs : Int32) (v_bytes : Int32) (v_position : Int32) (v_tokenAt : Int32) (v_token : Int64) (v_digits : Int32) (v_number : Int32) (v_faultAt : Int32) (v_readMany : Int32) (v_readStoreys : Int32) (v_readPairs : Int32) (v_rows : Int32) (v_sights : Int32) (v_text : (Nat → Int32)) (v_read : (Nat → Int32)) (v_now : (Nat → Int32)) (v_isKept : (Nat → Int32)) (v_pair : (Nat → Int32)) (v_wind : (Nat → Int32)) (v_storey : (Nat → Int32)) (sz : Nat)  (post : Int32 → Int32 → Int32 → Int32 → Int32 → Int32 → Int32 → Int32 → Int32 → Int64 → (Nat → Int32) → Int32 → (Nat → Int32) → Int32 → Int32 → (Nat → Int32) → (Nat → Int32) → Int32 → (Nat → Int32) → Int32 → Int32 → (Nat → Int32) → Int32 → Prop) (hf : f_X5_site v_text v_position v_readMany v_readStoreys v_readPairs v_faultAt v_tokenAt v_digits v_number v_token v_read v_bytes v_now v_rows v_sights v_isKept v_pair v_pairs v_wind v_soft v_jacks v_storey v_storeys post) : Met l yX5_site (Cond.code yX5_site cX5_site 2 (some .int) :: mx_WS) rm_X5_site (va_Pc [.ref a_t] (mx_Pw E (w_X5_site E a_t a_storey a_wind a_pair a_text a_read a_now a_image a_isKept a_row a_sight a_ways a_ends a_tried v_storeys v_jacks v_soft v_pairs v_bytes v_position v_tokenAt v_token v_digits v_number v_faultAt v_readMany v_readStoreys v_readPairs v_rows v_sights v_text v_read v_now v_isKept v_pair v_wind v_storey) sz)) (va_Qi (fun (v : Int32) (u : Int32 × Int32 × Int32 × Int32 × Int32 × Int32 × Int32 × Int32 × Int64 × (Nat → Int32) × Int32 × (Nat → Int32) × Int32 × Int32 × (Nat → Int32) × (Nat → Int32) × Int32 × (Nat → Int32) × Int32 × Int32 × (Nat → Int32) × Int32) => post v u.1 u.2.1 u.2.2.1 u.2.2.2.1 u.2.2.2.2.1 u.2.2.2.2.2.1 u.2.2.2.2.2.2.1 u.2.2.2.2.2.2.2.1 u.2.2.2.2.2.2.2.2.1 u.2.2.2.2.2.2.2.2.2.1 u.2.2.2.2.2.2.2.2.2.2.1 u.2.2.2.2.2.2.2.2.2.2.2.1 u.2.2.2.2.2.2.2.2.2.2.2.2.1 u.2.2.2.2.2.2.2.2.2.2.2.2.2.1 u.2.2.2.2.2.2.2.2.2.2.2.2.2.2.1 u.2.2.2.2.2.2.2.2.2.2.2.2.2.2.2.1 u.2.2.2.2.2.2.2.2.2.2.2.2.2.2.2.2.1 u.2.2.2.2.2.2.2.2.2.2.2.2.2.2.2.2.2.1 u.2.2.2.2.2.2.2.2.2.2.2.2.2.2.2.2.2.2.1 u.2.2.2.2.2.2.2.2.2.2.2.2.2.2.2.2.2.2.2.1 u.2.2.2.2.2.2.2.2.2.2.2.2.2.2.2.2.2.2.2.2.1 u.2.2.2.2.2.2.2.2.2.2.2.2.2.2.2.2.2.2.2.2.2) (fun u t => va_P E.1 vwCl (w_X5_site E a_t a_storey a_wind a_pair a_text a_read a_now a_image a_isKept a_row a_sight a_ways a_ends a_tried u.2.2.2.2.2.2.2.2.2.2.2.2.2.2.2.2.2.2.2.2.2 u.2.2.2.2.2.2.2.2.2.2.2.2.2.2.2.2.2.2.2.1 u.2.2.2.2.2.2.2.2.2.2.2.2.2.2.2.2.2.2.1 u.2.2.2.2.2.2.2.2.2.2.2.2.2.2.2.2.1 u.2.2.2.2.2.2.2.2.2.2.1 u.1 u.2.2.2.2.2.1 u.2.2.2.2.2.2.2.2.1 u.2.2.2.2.2.2.1 u.2.2.2.2.2.2.2.1 u.2.2.2.2.1 u.2.1 u.2.2.1 u.2.2.2.1 u.2.2.2.2.2.2.2.2.2.2.2.2.1 u.2.2.2.2.2.2.2.2.2.2.2.2.2.1 v_text u.2.2.2.2.2.2.2.2.2.1 u.2.2.2.2.2.2.2.2.2.2.2.1 u.2.2.2.2.2.2.2.2.2.2.2.2.2.2.1 u.2.2.2.2.2.2.2.2.2.2.2.2.2.2.2.1 u.2.2.2.2.2.2.2.2.2.2.2.2.2.2.2.2.2.1 u.2.2.2.2.2.2.2.2.2.2.2.2.2.2.2.2.2.2.2.2.1) t.heap) (va_A (w_X5_site E a_t a_storey a_wind a_pair a_text a_read a_now a_image a_isKept a_row a_sight a_ways a_ends a_tried v_storeys v_jacks v_soft v_pairs v_bytes v_position v_tokenAt v_token v_digits v_number v_faultAt v_readMany v_readStoreys v_readPairs v_rows v_sights v_text v_read v_now v_isKept v_pair v_wind v_storey) sz)) 0 0 (va_A (w_X5_site E a_t a_storey a_wind a_pair a_text a_read a_now a_image a_isKept a_row a_sight a_ways a_ends a_tried v_storeys v_jacks v_soft v_pairs v_bytes v_position v_tokenAt v_token v_digits v_number v_faultAt v_readMany v_readStoreys v_readPairs v_rows v_sights v_text v_read v_now v_isKept v_pair v_wind v_storey) sz) :=
  mx_metWi (by decide) rfl rfl (fun hB hP hD hA hRet ls hl => b_X5_site E a_t a_storey a_wind a_pair a_text a_read a_now a_image a_isKept a_row a_sight a_ways a_ends a_tried v_storeys v_jacks v_soft v_pairs v_bytes v_position v_tokenAt v_token v_digits v_number v_faultAt v_readMany v_readStoreys v_readPairs v_rows v_sights v_text v_read v_now v_isKept v_pair v_wind v_storey  post hB hP hD hA hRet hf ls hl)
