def rm_X4_ofFirstOrder : Room := { frames := 4, cells := 0, slots := 0, locals := 89 }
set_option maxHeartbeats 4000000 in
set_option maxRecDepth 100000 in
theorem b_X4_ofFirstOrder {p : Program} {l : Launch} {e : Env} {s : State} {m : MethodId} {args : Array Value} {below : List Frame} {meth : Method} {c : Code} {Q : State → Prop} (E : mx_E) (a_t : Nat) (a_text : Nat) (a_told : Nat) (a_reader : Nat) (a_tower : Nat) (a_kept : Nat) (a_isKept : Nat) (a_lifts : Nat) (a_seenAt : Nat) (a_seenInches : Nat) (a_ways : Nat) (a_trial : Nat) (a_told_kind : Nat) (a_told_weight : Nat) (a_told_strength : Nat) (a_told_height : Nat) (a_told_folk : Nat) (a_told_mustBeAbove : Nat) (a_told_wind : Nat) (v_liftsMany : Int32) (v_seenMany : Int32) (v_told_storeys : Int32) (v_told_pairs : Int32) (v_told_bears : Int32) (v_told_soft : Int32) (v_told_cellars : Int32) (v_told_weight : (Nat → Int32)) (v_told_folk : (Nat → Int32)) (v_told_kind : (Nat → Int32)) (v_told_mustBeAbove : (Nat → Int32)) (v_told_strength : (Nat → Int32)) (v_ways : (Nat → Int32)) (x1 : Int32) (post : Int32 → Prop) (hB : mx_B p m c cX4_ofFirstOrder 5 s args RX4 E) (hP : va_P E.1 vwCl (w_X4_ofFirstOrder E a_t a_text a_told a_reader a_tower a_kept a_isKept a_lifts a_seenAt a_seenInches a_ways a_trial a_told_kind a_told_weight a_told_strength a_told_height a_told_folk a_told_mustBeAbove a_told_wind v_liftsMany v_seenMany v_told_storeys v_told_pairs v_told_bears v_told_soft v_told_cellars v_told_weight v_told_folk v_told_kind v_told_mustBeAbove v_told_strength v_ways) s.heap) (hRet : ∀ (v : Int32) (pc : Nat) (ls : Array Slot), decode cX4_ofFirstOrder pc = .ok (.ireturn, 1) → post v → W p l e rm_X4_ofFirstOrder s m args below meth c s.heap [] 0 0 Q (F0 m pc ls [.int v])) (hf : f_X4_ofFirstOrder v_told_storeys v_told_weight v_told_folk v_told_bears v_told_kind v_told_cellars v_told_mustBeAbove v_told_strength v_ways x1 post) (ls : Array Slot) (hl : lv_has ls 5 [(0, .ref a_t), (1, .int x1)]) : W p l e rm_X4_ofFirstOrder s m args below meth c s.heap [] 0 0 Q (F0 m 0 ls []) := by
  have hx := hB.x
  have hb := hB.b
  have L_7 : ∀ (g7_x1 : Int32) (n : Nat) (j7_x2 : Int32) (j7_x3 : Int32) (j7_x4 : Int32) (ls : Array Slot), mx_l3 (f_X4_ofFirstOrder_7 v_told_storeys v_told_weight v_told_folk v_told_bears v_told_kind v_told_cellars v_told_mustBeAbove v_told_strength v_ways post g7_x1) n j7_x2 j7_x3 j7_x4 → lv_has ls 5 [(0, .ref a_t), (1, .int g7_x1), (2, .int j7_x2), (3, .int j7_x3), (4, .int j7_x4)] → W p l e rm_X4_ofFirstOrder s m args below meth c s.heap [] 0 0 Q (F0 m 7 ls []) := by
    intro g7_x1 n_7
    induction n_7 with
    | zero =>
      intro j7_x2 j7_x3 j7_x4 ls hf hl
      exact False.elim hf
    | succ n_7 ih_7 =>
      intro j7_x2 j7_x3 j7_x4 ls hf hl
      replace hf : f_X4_ofFirstOrder_7 v_told_storeys v_told_weight v_told_folk v_told_bears v_told_kind v_told_cellars v_told_mustBeAbove v_told_strength v_ways post g7_x1 (mx_l3 (f_X4_ofFirstOrder_7 v_told_storeys v_told_weight v_told_folk v_told_bears v_told_kind v_told_cellars v_told_mustBeAbove v_told_strength v_ways post g7_x1) n_7) j7_x2 j7_x3 j7_x4 := hf
      refine lv_iload hx hb dX4_ofFirstOrder_7 (lv_at hl 4 rfl) ?_
      refine lv_iload_n hx hb dX4_ofFirstOrder_9 rfl (lv_at hl 1 rfl) ?_
      refine lv_icmp_gt (tgt := 50) hx hb dX4_ofFirstOrder_10 (by decide) (fun c10 => ?_) (fun c10 => ?_)
      · have hf := hf.1 c10
        refine lv_iload_n hx hb dX4_ofFirstOrder_50 rfl (lv_at hl 3 rfl) ?_
        exact hRet j7_x3 51 ls dX4_ofFirstOrder_51 hf
      · have hf := hf.2 c10
        refine lv_iload hx hb dX4_ofFirstOrder_13 (lv_at hl 4 rfl) ?_
        refine lv_aload_n hx hb dX4_ofFirstOrder_15 rfl (lv_at hl 0 rfl) ?_
        refine gf_X4_19 hB hP 0 rfl rfl dX4_ofFirstOrder_16 ?_
        refine gf_X4_164 hB hP 1 rfl rfl dX4_ofFirstOrder_19 ?_
        refine lv_icmp_ge (tgt := 50) hx hb dX4_ofFirstOrder_22 (by decide) (fun c22 => ?_) (fun c22 => ?_)
        · have hf := hf.1 c22
          refine lv_iload_n hx hb dX4_ofFirstOrder_50 rfl (lv_at hl 3 rfl) ?_
          exact hRet j7_x3 51 ls dX4_ofFirstOrder_51 hf
        · have hf := hf.2 c22
          refine lv_aload_n hx hb dX4_ofFirstOrder_25 rfl (lv_at hl 0 rfl) ?_
          refine lv_iload_n hx hb dX4_ofFirstOrder_26 rfl (lv_at hl 2 rfl) ?_
          refine mx_gi (mx_runV (As := [.int j7_x2]) (rest := []) hB (c_X4_leastWithWayOn l E a_t a_text a_told a_reader a_tower a_kept a_isKept a_lifts a_seenAt a_seenInches a_ways a_trial a_told_kind a_told_weight a_told_strength a_told_height a_told_folk a_told_mustBeAbove a_told_wind v_liftsMany v_seenMany v_told_storeys v_told_pairs v_told_bears v_told_soft v_told_cellars v_told_weight v_told_folk v_told_kind v_told_mustBeAbove v_told_strength v_ways j7_x2 _ hf) sB_X4_leastWithWayOn sV_X4_leastWithWayOn wml_X4_180 rfl (mx_ppV hB hP [0, 1, 2, 3, 4, 5, 6, 7] rfl 4 rfl rfl rfl) hl.1 rfl (Nat.le_of_ble_eq_true rfl) dX4_ofFirstOrder_27 ⟨Nat.zero_le _, Nat.zero_le _⟩) (fun r1 hf => ?_)
          refine lv_istore_n (lv' := [(3, .int r1), (0, .ref a_t), (1, .int g7_x1), (2, .int j7_x2), (4, .int j7_x4)]) hx hb dX4_ofFirstOrder_30 rfl hl (by decide) rfl (fun ls hl => ?_)
          refine lv_iload_n hx hb dX4_ofFirstOrder_31 rfl (lv_at hl 0 rfl) ?_
          refine lv_iconst hx hb dX4_ofFirstOrder_32 kc_i_m1 ?_
          refine lv_icmp_ne (tgt := 38) hx hb dX4_ofFirstOrder_33 (by decide) (fun c33 => ?_) (fun c33 => ?_)
          · have hf := hf.1 c33
            refine lv_iload_n hx hb dX4_ofFirstOrder_38 rfl (lv_at hl 3 rfl) ?_
            refine lv_iconst hx hb dX4_ofFirstOrder_39 kc_i_1 ?_
            refine lv_iload_n hx hb dX4_ofFirstOrder_40 rfl (lv_at hl 0 rfl) ?_
            refine lv_ishl hx hb dX4_ofFirstOrder_41 ?_
            refine lv_ior hx hb dX4_ofFirstOrder_42 ?_
            refine lv_istore_n (lv' := [(2, .int (j7_x2 ||| (1 <<< (r1 &&& 31)))), (3, .int r1), (0, .ref a_t), (1, .int g7_x1), (4, .int j7_x4)]) hx hb dX4_ofFirstOrder_43 rfl hl (by decide) rfl (fun ls hl => ?_)
            refine lv_iinc (v := j7_x4 + 1) (lv' := [(4, .int (j7_x4 + 1)), (2, .int (j7_x2 ||| (1 <<< (r1 &&& 31)))), (3, .int r1), (0, .ref a_t), (1, .int g7_x1)]) hx hb dX4_ofFirstOrder_44 hl (k := 4) rfl (by rw [kc_i_1]) (by decide) rfl (fun ls hl => ?_)
            refine lv_goto (tgt := 7) hx hb dX4_ofFirstOrder_47 (by decide) ?_
            exact ih_7 (j7_x2 ||| (1 <<< (r1 &&& 31))) r1 (j7_x4 + 1) ls hf (lv_sub hl [3, 4, 1, 2, 0] rfl)
          · have hf := hf.2 c33
            refine lv_iconst hx hb dX4_ofFirstOrder_36 kc_i_m1 ?_
            exact hRet (-1) 37 ls dX4_ofFirstOrder_37 hf
  refine lv_iconst hx hb dX4_ofFirstOrder_0 kc_i_0 ?_
  refine lv_istore_n (lv' := [(2, .int 0), (0, .ref a_t), (1, .int x1)]) hx hb dX4_ofFirstOrder_1 rfl hl (by decide) rfl (fun ls hl => ?_)
  refine lv_iconst hx hb dX4_ofFirstOrder_2 kc_i_m1 ?_
  refine lv_istore_n (lv' := [(3, .int (-1)), (2, .int 0), (0, .ref a_t), (1, .int x1)]) hx hb dX4_ofFirstOrder_3 rfl hl (by decide) rfl (fun ls hl => ?_)
  refine lv_iconst hx hb dX4_ofFirstOrder_4 kc_i_0 ?_
  refine lv_istore (lv' := [(4, .int 0), (3, .int (-1)), (2, .int 0), (0, .ref a_t), (1, .int x1)]) hx hb dX4_ofFirstOrder_5 hl (by decide) rfl (fun ls hl => ?_)
  obtain ⟨n9, hf⟩ := hf
  exact L_7 x1 n9 0 (-1) 0 ls hf (lv_sub hl [3, 4, 2, 1, 0] rfl)
theorem c_X4_ofFirstOrder (l : Launch) (E : mx_E) (a_t : Nat) (a_text : Nat) (a_told : Nat) (a_reader : Nat) (a_tower : Nat) (a_kept : Nat) (a_isKept : Nat) (a_lifts : Nat) (a_seenAt : Nat) (a_seenInches : Nat) (a_ways : Nat) (a_trial : Nat) (a_told_kind : Nat) (a_told_weight : Nat) (a_told_strength : Nat) (a_told_height : Nat) (a_told_folk : Nat) (a_told_mustBeAbove : Nat) (a_told_wind : Nat) (v_liftsMany : Int32) (v_seenMany : Int32) (v_told_storeys : Int32) (v_told_pairs : Int32) (v_told_bears : Int32) (v_told_soft : Int32) (v_told_cellars : Int32) (v_told_weight : (Nat → Int32)) (v_told_folk : (Nat → Int32)) (v_told_kind : (Nat → Int32)) (v_told_mustBeAbove : (Nat → Int32)) (v_told_strength : (Nat → Int32)) (v_ways : (Nat → Int32)) (x1 : Int32) (post : Int32 → Prop) (hf : f_X4_ofFirstOrder v_told_storeys v_told_weight v_told_folk v_told_bears v_told_kind v_told_cellars v_told_mustBeAbove v_told_strength v_ways x1 post) : Met l yX4_ofFirstOrder (Cond.code yX4_ofFirstOrder cX4_ofFirstOrder 5 (some .int) :: mx_WS) rm_X4_ofFirstOrder (va_Pc [.ref a_t, .int x1] (mx_Pp E (w_X4_ofFirstOrder E a_t a_text a_told a_reader a_tower a_kept a_isKept a_lifts a_seenAt a_seenInches a_ways a_trial a_told_kind a_told_weight a_told_strength a_told_height a_told_folk a_told_mustBeAbove a_told_wind v_liftsMany v_seenMany v_told_storeys v_told_pairs v_told_bears v_told_soft v_told_cellars v_told_weight v_told_folk v_told_kind v_told_mustBeAbove v_told_strength v_ways))) (vp_Si post) 0 0 (fun _ => False) :=
  mx_metPi (by decide) rfl rfl (fun hB hP hRet ls hl => b_X4_ofFirstOrder E a_t a_text a_told a_reader a_tower a_kept a_isKept a_lifts a_seenAt a_seenInches a_ways a_trial a_told_kind a_told_weight a_told_strength a_told_height a_told_folk a_told_mustBeAbove a_told_wind v_liftsMany v_seenMany v_told_storeys v_told_pairs v_told_bears v_told_soft v_told_cellars v_told_weight v_told_folk v_told_kind v_told_mustBeAbove v_told_strength v_ways x1 post hB hP hRet hf ls hl)
def rm_X4_orders : Room := { frames := 5, cells := 0, slots := 0, locals := 113 }
set_option maxHeartbeats 4000000 in
set_option maxRecDepth 100000 in
theorem b_X4_orders {p : Program} {l : Launch} {e : Env} {s : State} {m : MethodId} {args : Array Value} {below : List Frame} {meth : Method} {c : Code} {Q : State → Prop} {A : Nat → Prop} (E : mx_E) (a_t : Nat) (a_text : Nat) (a_told : Nat) (a_reader : Nat) (a_tower : Nat) (a_kept : Nat) (a_isKept : Nat) (a_lifts : Nat) (a_seenAt : Nat) (a_seenInches : Nat) (a_ways : Nat) (a_trial : Nat) (a_told_kind : Nat) (a_told_weight : Nat) (a_told_strength : Nat) (a_told_height : Nat) (a_told_folk : Nat) (a_told_mustBeAbove : Nat) (a_told_wind : Nat) (v_liftsMany : Int32) (v_seenMany : Int32) (v_told_storeys : Int32) (v_told_pairs : Int32) (v_told_bears : Int32) (v_told_soft : Int32) (v_told_cellars : Int32) (v_ways : (Nat → Int32)) (v_told_weight : (Nat → Int32)) (v_told_folk : (Nat → Int32)) (v_told_kind : (Nat → Int32)) (v_told_mustBeAbove : (Nat → Int32)) (v_told_strength : (Nat → Int32)) (x1 : Int32) (post : Int32 → (Nat → Int32) → Prop) (hB : mx_B p m c cX4_orders 2 s args RX4 E) (hP : va_P E.1 vwCl (w_X4_orders E a_t a_text a_told a_reader a_tower a_kept a_isKept a_lifts a_seenAt a_seenInches a_ways a_trial a_told_kind a_told_weight a_told_strength a_told_height a_told_folk a_told_mustBeAbove a_told_wind v_liftsMany v_seenMany v_told_storeys v_told_pairs v_told_bears v_told_soft v_told_cellars v_ways v_told_weight v_told_folk v_told_kind v_told_mustBeAbove v_told_strength) s.heap) (hD : va_D A (w_X4_orders E a_t a_text a_told a_reader a_tower a_kept a_isKept a_lifts a_seenAt a_seenInches a_ways a_trial a_told_kind a_told_weight a_told_strength a_told_height a_told_folk a_told_mustBeAbove a_told_wind v_liftsMany v_seenMany v_told_storeys v_told_pairs v_told_bears v_told_soft v_told_cellars v_ways v_told_weight v_told_folk v_told_kind v_told_mustBeAbove v_told_strength)) (hA : ∀ q : Nat, s.heap.size ≤ q → A q) (hRet : ∀ (v : Int32) (u : (Nat → Int32)) (pc : Nat) (ls : Array Slot) (H : Heap) (locs : List Loc), decode cX4_orders pc = .ok (.ireturn, 1) → post v u → va_P E.1 vwCl (w_X4_orders E a_t a_text a_told a_reader a_tower a_kept a_isKept a_lifts a_seenAt a_seenInches a_ways a_trial a_told_kind a_told_weight a_told_strength a_told_height a_told_folk a_told_mustBeAbove a_told_wind v_liftsMany v_seenMany v_told_storeys v_told_pairs v_told_bears v_told_soft v_told_cellars u v_told_weight v_told_folk v_told_kind v_told_mustBeAbove v_told_strength) H → va_S A s.heap H locs → W p l e rm_X4_orders s m args below meth c H locs 0 0 Q (F0 m pc ls [.int v])) (hf : f_X4_orders v_told_storeys v_told_weight v_told_folk v_told_bears v_told_kind v_told_cellars v_told_mustBeAbove v_told_strength v_ways x1 post) (ls : Array Slot) (hl : lv_has ls 2 [(0, .ref a_t), (1, .int x1)]) : W p l e rm_X4_orders s m args below meth c s.heap [] 0 0 Q (F0 m 0 ls []) := by
  have hx := hB.x
  have hb := hB.b
  have hS : va_S A s.heap s.heap [] := va_S.rf
  obtain ⟨H, locs, eH, eL⟩ : ∃ (H : Heap) (locs : List Loc), H = s.heap ∧ locs = [] := ⟨_, _, rfl, rfl⟩
  rw [← eH] at hP
  have hS : va_S A s.heap H locs := by rw [eH, eL]; exact hS
  show W p l e rm_X4_orders s m args below meth c s.heap [] 0 0 Q (F0 m 0 ls [])
  rw [← eH, ← eL]
  refine lv_iload_n hx hb dX4_orders_0 rfl (lv_at hl 1 rfl) ?_
  refine lv_iconst hx hb dX4_orders_1 kc_i_m1 ?_
  refine lv_icmp_ge (tgt := 8) hx hb dX4_orders_2 (by decide) (fun c2 => ?_) (fun c2 => ?_)
  · have hf := hf.1 c2
    refine lv_aload_n hx hb dX4_orders_8 rfl (lv_at hl 0 rfl) ?_
    refine mx_wv (mx_runV (As := []) (rest := []) hB (c_X4_countWaysOn l E a_t a_text a_told a_reader a_tower a_kept a_isKept a_lifts a_seenAt a_seenInches a_ways a_trial a_told_kind a_told_weight a_told_strength a_told_height a_told_folk a_told_mustBeAbove a_told_wind v_liftsMany v_seenMany v_told_storeys v_told_pairs v_told_bears v_told_soft v_told_cellars v_ways v_told_weight v_told_folk v_told_kind v_told_mustBeAbove v_told_strength H.size  _ hf) sB_X4_countWaysOn sV_X4_countWaysOn wml_X4_161 rfl (mx_pwV hB hP hD [0, 1, 2, 3, 4, 5, 6, 7] (by decide) rfl rfl 4 rfl rfl rfl) hl.1 rfl (Nat.le_of_ble_eq_true rfl) dX4_orders_9 ⟨Nat.zero_le _, Nat.zero_le _⟩) hP hD hS hA [0, 1, 2, 3, 4, 5, 6, 7] [] 8 rfl (fun u => w_X4_orders E a_t a_text a_told a_reader a_tower a_kept a_isKept a_lifts a_seenAt a_seenInches a_ways a_trial a_told_kind a_told_weight a_told_strength a_told_height a_told_folk a_told_mustBeAbove a_told_wind v_liftsMany v_seenMany v_told_storeys v_told_pairs v_told_bears v_told_soft v_told_cellars u v_told_weight v_told_folk v_told_kind v_told_mustBeAbove v_told_strength) (fun _ => rfl) (by decide) (fun _ => rfl) (fun _ => rfl) rfl (fun _ => rfl) (fun u H locs hf hP hD hS => ?_)
    obtain ⟨u2, rfl⟩ : ∃ z, z = u := ⟨_, rfl⟩
    have hP : va_P E.1 vwCl (w_X4_orders E a_t a_text a_told a_reader a_tower a_kept a_isKept a_lifts a_seenAt a_seenInches a_ways a_trial a_told_kind a_told_weight a_told_strength a_told_height a_told_folk a_told_mustBeAbove a_told_wind v_liftsMany v_seenMany v_told_storeys v_told_pairs v_told_bears v_told_soft v_told_cellars u2 v_told_weight v_told_folk v_told_kind v_told_mustBeAbove v_told_strength) H := hP
    have hD : va_D A (w_X4_orders E a_t a_text a_told a_reader a_tower a_kept a_isKept a_lifts a_seenAt a_seenInches a_ways a_trial a_told_kind a_told_weight a_told_strength a_told_height a_told_folk a_told_mustBeAbove a_told_wind v_liftsMany v_seenMany v_told_storeys v_told_pairs v_told_bears v_told_soft v_told_cellars u2 v_told_weight v_told_folk v_told_kind v_told_mustBeAbove v_told_strength) := hD
    refine lv_iload_n hx hb dX4_orders_12 rfl (lv_at hl 1 rfl) ?_
    refine lv_iconst hx hb dX4_orders_13 kc_i_m1 ?_
    refine lv_icmp_ne (tgt := 24) hx hb dX4_orders_14 (by decide) (fun c14 => ?_) (fun c14 => ?_)
    · have hf := hf.1 c14
      refine lv_aload_n hx hb dX4_orders_24 rfl (lv_at hl 0 rfl) ?_
      refine gf_X4_57 hB hP 0 rfl rfl dX4_orders_25 ?_
      refine lv_iconst hx hb dX4_orders_28 kc_i_0 ?_
      obtain ⟨h_in, hf⟩ := hf
      refine va_iald hx hb hB.K hP 2 0 rfl rfl h_in dX4_orders_29 ?_
      refine lv_if_eq (tgt := 44) hx hb dX4_orders_30 (by decide) (fun c30 => ?_) (fun c30 => ?_)
      · have hf := hf.1 c30
        refine lv_iconst hx hb dX4_orders_44 kc_i_m1 ?_
        exact hRet (-1) u2 45 ls H locs dX4_orders_45 hf hP hS
      · have hf := hf.2 c30
        refine lv_iload_n hx hb dX4_orders_33 rfl (lv_at hl 1 rfl) ?_
        refine lv_aload_n hx hb dX4_orders_34 rfl (lv_at hl 0 rfl) ?_
        refine gf_X4_19 hB hP 0 rfl rfl dX4_orders_35 ?_
        refine gf_X4_164 hB hP 1 rfl rfl dX4_orders_38 ?_
        refine lv_icmp_lt (tgt := 46) hx hb dX4_orders_41 (by decide) (fun c41 => ?_) (fun c41 => ?_)
        · have hf := hf.1 c41
          refine lv_aload_n hx hb dX4_orders_46 rfl (lv_at hl 0 rfl) ?_
          refine lv_iload_n hx hb dX4_orders_47 rfl (lv_at hl 1 rfl) ?_
          refine mx_gi (mx_runV (As := [.int x1]) (rest := []) hB (c_X4_ofFirstOrder l E a_t a_text a_told a_reader a_tower a_kept a_isKept a_lifts a_seenAt a_seenInches a_ways a_trial a_told_kind a_told_weight a_told_strength a_told_height a_told_folk a_told_mustBeAbove a_told_wind v_liftsMany v_seenMany v_told_storeys v_told_pairs v_told_bears v_told_soft v_told_cellars v_told_weight v_told_folk v_told_kind v_told_mustBeAbove v_told_strength u2 x1 _ hf) sB_X4_ofFirstOrder sV_X4_ofFirstOrder wml_X4_167 rfl (mx_ppV hB hP [0, 1, 3, 4, 5, 6, 7, 2] rfl 4 rfl rfl rfl) hl.1 rfl (Nat.le_of_ble_eq_true rfl) dX4_orders_48 ⟨Nat.zero_le _, Nat.zero_le _⟩) (fun r3 hf => ?_)
          exact hRet r3 u2 51 ls H locs dX4_orders_51 hf hP hS
        · have hf := hf.2 c41
          refine lv_iconst hx hb dX4_orders_44 kc_i_m1 ?_
          exact hRet (-1) u2 45 ls H locs dX4_orders_45 hf hP hS
    · have hf := hf.2 c14
      refine lv_aload_n hx hb dX4_orders_17 rfl (lv_at hl 0 rfl) ?_
      refine gf_X4_57 hB hP 0 rfl rfl dX4_orders_18 ?_
      refine lv_iconst hx hb dX4_orders_21 kc_i_0 ?_
      obtain ⟨h_in, hf⟩ := hf
      refine va_iald hx hb hB.K hP 2 0 rfl rfl h_in dX4_orders_22 ?_
      exact hRet (u2 (0 : Int32).toNatClampNeg) u2 23 ls H locs dX4_orders_23 hf hP hS
  · have hf := hf.2 c2
    refine lv_bipush hx hb dX4_orders_5 kc_b_m3 ?_
    exact hRet (-3) v_ways 7 ls H locs dX4_orders_7 hf hP hS
theorem c_X4_orders (l : Launch) (E : mx_E) (a_t : Nat) (a_text : Nat) (a_told : Nat) (a_reader : Nat) (a_tower : Nat) (a_kept : Nat) (a_isKept : Nat) (a_lifts : Nat) (a_seenAt : Nat) (a_seenInches : Nat) (a_ways : Nat) (a_trial : Nat) (a_told_kind : Nat) (a_told_weight : Nat) (a_told_strength : Nat) (a_told_height : Nat) (a_told_folk : Nat) (a_told_mustBeAbove : Nat) (a_told_wind : Nat) (v_liftsMany : Int32) (v_seenMany : Int32) (v_told_storeys : Int32) (v_told_pairs : Int32) (v_told_bears : Int32) (v_told_soft : Int32) (v_told_cellars : Int32) (v_ways : (Nat → Int32)) (v_told_weight : (Nat → Int32)) (v_told_folk : (Nat → Int32)) (v_told_kind : (Nat → Int32)) (v_told_mustBeAbove : (Nat → Int32)) (v_told_strength : (Nat → Int32)) (sz : Nat) (x1 : Int32) (post : Int32 → (Nat → Int32) → Prop) (hf : f_X4_orders v_told_storeys v_told_weight v_told_folk v_told_bears v_told_kind v_told_cellars v_told_mustBeAbove v_told_strength v_ways x1 post) : Met l yX4_orders (Cond.code yX4_orders cX4_orders 2 (some .int) :: mx_WS) rm_X4_orders (va_Pc [.ref a_t, .int x1] (mx_Pw E (w_X4_orders E a_t a_text a_told a_reader a_tower a_kept a_isKept a_lifts a_seenAt a_seenInches a_ways a_trial a_told_kind a_told_weight a_told_strength a_told_height a_told_folk a_told_mustBeAbove a_told_wind v_liftsMany v_seenMany v_told_storeys v_told_pairs v_told_bears v_told_soft v_told_cellars v_ways v_told_weight v_told_folk v_told_kind v_told_mustBeAbove v_told_strength) sz)) (va_Qi (fun (v : Int32) (u : (Nat → Int32)) => post v u) (fun u t => va_P E.1 vwCl (w_X4_orders E a_t a_text a_told a_reader a_tower a_kept a_isKept a_lifts a_seenAt a_seenInches a_ways a_trial a_told_kind a_told_weight a_told_strength a_told_height a_told_folk a_told_mustBeAbove a_told_wind v_liftsMany v_seenMany v_told_storeys v_told_pairs v_told_bears v_told_soft v_told_cellars u v_told_weight v_told_folk v_told_kind v_told_mustBeAbove v_told_strength) t.heap) (va_A (w_X4_orders E a_t a_text a_told a_reader a_tower a_kept a_isKept a_lifts a_seenAt a_seenInches a_ways a_trial a_told_kind a_told_weight a_told_strength a_told_height a_told_folk a_told_mustBeAbove a_told_wind v_liftsMany v_seenMany v_told_storeys v_told_pairs v_told_bears v_told_soft v_told_cellars v_ways v_told_weight v_told_folk v_told_kind v_told_mustBeAbove v_told_strength) sz)) 0 0 (va_A (w_X4_orders E a_t a_text a_told a_reader a_tower a_kept a_isKept a_lifts a_seenAt a_seenInches a_ways a_trial a_told_kind a_told_weight a_told_strength a_told_height a_told_folk a_told_mustBeAbove a_told_wind v_liftsMany v_seenMany v_told_storeys v_told_pairs v_told_bears v_told_soft v_told_cellars v_ways v_told_weight v_told_folk v_told_kind v_told_mustBeAbove v_told_strength) sz) :=
  mx_metWi (by decide) rfl rfl (fun hB hP hD hA hRet ls hl => b_X4_orders E a_t a_text a_told a_reader a_tower a_kept a_isKept a_lifts a_seenAt a_seenInches a_ways a_trial a_told_kind a_told_weight a_told_strength a_told_height a_told_folk a_told_mustBeAbove a_told_wind v_liftsMany v_seenMany v_told_storeys v_told_pairs v_told_bears v_told_soft v_told_cellars v_ways v_told_weight v_told_folk v_told_kind v_told_mustBeAbove v_told_strength x1 post hB hP hD hA hRet hf ls hl)
def rm_X4_passWaysOn : Room := { frames := 3, cells := 0, slots := 0, locals := 66 }
set_option maxHeartbeats 4000000 in
set_option maxRecDepth 100000 in
theorem b_X4_passWaysOn {p : Program} {l : Launch} {e : Env} {s : State} {m : MethodId} {args : Array Value} {below : List Frame} {meth : Method} {c : Code} {Q : State → Prop} {A : Nat → Prop} (E : mx_E) (a_t : Nat) (a_text : Nat) (a_told : Nat) (a_reader : Nat) (a_tower : Nat) (a_kept : Nat) (a_isKept : Nat) (a_lifts : Nat) (a_seenAt : Nat) (a_seenInches : Nat) (a_ways : Nat) (a_trial : Nat) (a_told_kind : Nat) (a_told_weight : Nat) (a_told_strength : Nat) (a_told_height : Nat) (a_told_folk : Nat) (a_told_mustBeAbove : Nat) (a_told_wind : Nat) (v_liftsMany : Int32) (v_seenMany : Int32) (v_told_storeys : Int32) (v_told_pairs : Int32) (v_told_bears : Int32) (v_told_soft : Int32) (v_told_cellars : Int32) (v_told_weight : (Nat → Int32)) (v_told_folk : (Nat → Int32)) (v_told_kind : (Nat → Int32)) (v_told_mustBeAbove : (Nat → Int32)) (v_told_strength : (Nat → Int32)) (v_ways : (Nat → Int32)) (x1 : Int32) (x2 : Int32) (post : (Nat → Int32) → Prop) (hB : mx_B p m c cX4_passWaysOn 5 s args RX4 E) (hP : va_P E.1 vwCl (w_X4_passWaysOn E a_t a_text a_told a_reader a_tower a_kept a_isKept a_lifts a_seenAt a_seenInches a_ways a_trial a_told_kind a_told_weight a_told_strength a_told_height a_told_folk a_told_mustBeAbove a_told_wind v_liftsMany v_seenMany v_told_storeys v_told_pairs v_told_bears v_told_soft v_told_cellars v_told_weight v_told_folk v_told_kind v_told_mustBeAbove v_told_strength v_ways) s.heap) (hD : va_D A (w_X4_passWaysOn E a_t a_text a_told a_reader a_tower a_kept a_isKept a_lifts a_seenAt a_seenInches a_ways a_trial a_told_kind a_told_weight a_told_strength a_told_height a_told_folk a_told_mustBeAbove a_told_wind v_liftsMany v_seenMany v_told_storeys v_told_pairs v_told_bears v_told_soft v_told_cellars v_told_weight v_told_folk v_told_kind v_told_mustBeAbove v_told_strength v_ways)) (hA : ∀ q : Nat, s.heap.size ≤ q → A q) (hRet : ∀ (u : (Nat → Int32)) (pc : Nat) (ls : Array Slot) (H : Heap) (locs : List Loc), decode cX4_passWaysOn pc = .ok (.return_, 1) → post u → va_P E.1 vwCl (w_X4_passWaysOn E a_t a_text a_told a_reader a_tower a_kept a_isKept a_lifts a_seenAt a_seenInches a_ways a_trial a_told_kind a_told_weight a_told_strength a_told_height a_told_folk a_told_mustBeAbove a_told_wind v_liftsMany v_seenMany v_told_storeys v_told_pairs v_told_bears v_told_soft v_told_cellars v_told_weight v_told_folk v_told_kind v_told_mustBeAbove v_told_strength u) H → va_S A s.heap H locs → W p l e rm_X4_passWaysOn s m args below meth c H locs 0 0 Q (F0 m pc ls [])) (hf : f_X4_passWaysOn v_told_storeys v_told_weight v_told_folk v_told_kind v_told_cellars v_told_mustBeAbove v_told_strength v_ways x1 x2 post) (ls : Array Slot) (hl : lv_has ls 5 [(0, .ref a_t), (1, .int x1), (2, .int x2)]) : W p l e rm_X4_passWaysOn s m args below meth c s.heap [] 0 0 Q (F0 m 0 ls []) := by
  have hx := hB.x
  have hb := hB.b
  have hS : va_S A s.heap s.heap [] := va_S.rf
  have L_12 : ∀ (g12_x1 : Int32) (g12_x2 : Int32) (g12_x3 : Int32) (n : Nat) (j12_x4 : Int32) (j12_v_ways : (Nat → Int32)) (ls : Array Slot) (H : Heap) (locs : List Loc), mx_l2 (f_X4_passWaysOn_12 v_told_storeys v_told_weight v_told_folk v_told_kind v_told_cellars v_told_mustBeAbove v_told_strength post g12_x1 g12_x2 g12_x3) n j12_x4 j12_v_ways → lv_has ls 5 [(0, .ref a_t), (1, .int g12_x1), (2, .int g12_x2), (3, .int g12_x3), (4, .int j12_x4)] → va_P E.1 vwCl (w_X4_passWaysOn E a_t a_text a_told a_reader a_tower a_kept a_isKept a_lifts a_seenAt a_seenInches a_ways a_trial a_told_kind a_told_weight a_told_strength a_told_height a_told_folk a_told_mustBeAbove a_told_wind v_liftsMany v_seenMany v_told_storeys v_told_pairs v_told_bears v_told_soft v_told_cellars v_told_weight v_told_folk v_told_kind v_told_mustBeAbove v_told_strength j12_v_ways) H → va_D A (w_X4_passWaysOn E a_t a_text a_told a_reader a_tower a_kept a_isKept a_lifts a_seenAt a_seenInches a_ways a_trial a_told_kind a_told_weight a_told_strength a_told_height a_told_folk a_told_mustBeAbove a_told_wind v_liftsMany v_seenMany v_told_storeys v_told_pairs v_told_bears v_told_soft v_told_cellars v_told_weight v_told_folk v_told_kind v_told_mustBeAbove v_told_strength j12_v_ways) → va_S A s.heap H locs → W p l e rm_X4_passWaysOn s m args below meth c H locs 0 0 Q (F0 m 12 ls []) := by
    intro g12_x1 g12_x2 g12_x3 n_12
    induction n_12 with
    | zero =>
      intro j12_x4 j12_v_ways ls H locs hf hl hP hD hS
      exact False.elim hf
    | succ n_12 ih_12 =>
      intro j12_x4 j12_v_ways ls H locs hf hl hP hD hS
      replace hf : f_X4_passWaysOn_12 v_told_storeys v_told_weight v_told_folk v_told_kind v_told_cellars v_told_mustBeAbove v_told_strength post g12_x1 g12_x2 g12_x3 (mx_l2 (f_X4_passWaysOn_12 v_told_storeys v_told_weight v_told_folk v_told_kind v_told_cellars v_told_mustBeAbove v_told_strength post g12_x1 g12_x2 g12_x3) n_12) j12_x4 j12_v_ways := hf
      refine lv_iload hx hb dX4_passWaysOn_12 (lv_at hl 4 rfl) ?_
      refine lv_aload_n hx hb dX4_passWaysOn_14 rfl (lv_at hl 0 rfl) ?_
      refine gf_X4_19 hB hP 0 rfl rfl dX4_passWaysOn_15 ?_
      refine gf_X4_164 hB hP 1 rfl rfl dX4_passWaysOn_18 ?_
      refine lv_icmp_ge (tgt := 65) hx hb dX4_passWaysOn_21 (by decide) (fun c21 => ?_) (fun c21 => ?_)
      · have hf := hf.1 c21
        exact hRet j12_v_ways 65 ls H locs dX4_passWaysOn_65 hf hP hS
      · have hf := hf.2 c21
        refine lv_aload_n hx hb dX4_passWaysOn_24 rfl (lv_at hl 0 rfl) ?_
        refine gf_X4_19 hB hP 0 rfl rfl dX4_passWaysOn_25 ?_
        refine lv_iload hx hb dX4_passWaysOn_28 (lv_at hl 4 rfl) ?_
        refine lv_iload_n hx hb dX4_passWaysOn_30 rfl (lv_at hl 1 rfl) ?_
        refine lv_iload_n hx hb dX4_passWaysOn_31 rfl (lv_at hl 3 rfl) ?_
        refine lv_iload_n hx hb dX4_passWaysOn_32 rfl (lv_at hl 2 rfl) ?_
        refine mx_gi (mx_runN (As := [.int j12_x4, .int g12_x1, .int g12_x3, .int g12_x2]) (rest := []) hB (c_X1_whyNot l E a_told a_told_kind a_told_weight a_told_strength a_told_height a_told_folk a_told_mustBeAbove a_told_wind v_told_storeys v_told_pairs v_told_bears v_told_soft v_told_cellars v_told_kind v_told_mustBeAbove v_told_strength j12_x4 g12_x1 g12_x3 g12_x2 _ hf) sB_X1_whyNot sV_X1_whyNot wmn_X4_176 rfl (mx_ppV hB hP [1, 4, 5, 6] rfl 1 rfl rfl rfl) hl.1 rfl (Nat.le_of_ble_eq_true rfl) dX4_passWaysOn_33 ⟨Nat.zero_le _, Nat.zero_le _⟩) (fun r1 hf => ?_)
        refine lv_if_ne (tgt := 59) hx hb dX4_passWaysOn_36 (by decide) (fun c36 => ?_) (fun c36 => ?_)
        · have hf := hf.1 c36
          refine lv_iinc (v := j12_x4 + 1) (lv' := [(4, .int (j12_x4 + 1)), (0, .ref a_t), (1, .int g12_x1), (2, .int g12_x2), (3, .int g12_x3)]) hx hb dX4_passWaysOn_59 hl (k := 4) rfl (by rw [kc_i_1]) (by decide) rfl (fun ls hl => ?_)
          refine lv_goto (tgt := 12) hx hb dX4_passWaysOn_62 (by decide) ?_
          exact ih_12 (j12_x4 + 1) j12_v_ways ls H locs hf (lv_sub hl [1, 2, 3, 4, 0] rfl) hP hD hS
        · have hf := hf.2 c36
          refine lv_aload_n hx hb dX4_passWaysOn_39 rfl (lv_at hl 0 rfl) ?_
          refine gf_X4_57 hB hP 0 rfl rfl dX4_passWaysOn_40 ?_
          refine lv_iload_n hx hb dX4_passWaysOn_43 rfl (lv_at hl 1 rfl) ?_
          refine lv_iconst hx hb dX4_passWaysOn_44 kc_i_1 ?_
          refine lv_iload hx hb dX4_passWaysOn_45 (lv_at hl 4 rfl) ?_
          refine lv_ishl hx hb dX4_passWaysOn_47 ?_
          refine lv_ior hx hb dX4_passWaysOn_48 ?_
          refine lv_dup2_11 hx hb dX4_passWaysOn_49 rfl rfl ?_
          obtain ⟨h_in, hf⟩ := hf
          refine va_iald hx hb hB.K hP 7 0 rfl rfl h_in dX4_passWaysOn_50 ?_
          refine lv_aload_n hx hb dX4_passWaysOn_51 rfl (lv_at hl 0 rfl) ?_
          refine gf_X4_57 hB hP 0 rfl rfl dX4_passWaysOn_52 ?_
          refine lv_iload_n hx hb dX4_passWaysOn_55 rfl (lv_at hl 1 rfl) ?_
          obtain ⟨h_in, hf⟩ := hf
          refine va_iald hx hb hB.K hP 7 0 rfl rfl h_in dX4_passWaysOn_56 ?_
          refine lv_iadd hx hb dX4_passWaysOn_57 ?_
          obtain ⟨h_in, hf⟩ := hf
          refine va_iast hx hb hB.K hP hD hS 7 0 rfl rfl h_in dX4_passWaysOn_58 (fun H locs hP hD hS => ?_)
          have hP : va_P E.1 vwCl (w_X4_passWaysOn E a_t a_text a_told a_reader a_tower a_kept a_isKept a_lifts a_seenAt a_seenInches a_ways a_trial a_told_kind a_told_weight a_told_strength a_told_height a_told_folk a_told_mustBeAbove a_told_wind v_liftsMany v_seenMany v_told_storeys v_told_pairs v_told_bears v_told_soft v_told_cellars v_told_weight v_told_folk v_told_kind v_told_mustBeAbove v_told_strength (upd j12_v_ways (g12_x1 ||| (1 <<< (j12_x4 &&& 31))).toNatClampNeg ((j12_v_ways (g12_x1 ||| (1 <<< (j12_x4 &&& 31))).toNatClampNeg) + (j12_v_ways g12_x1.toNatClampNeg)))) H := hP
          have hD : va_D A (w_X4_passWaysOn E a_t a_text a_told a_reader a_tower a_kept a_isKept a_lifts a_seenAt a_seenInches a_ways a_trial a_told_kind a_told_weight a_told_strength a_told_height a_told_folk a_told_mustBeAbove a_told_wind v_liftsMany v_seenMany v_told_storeys v_told_pairs v_told_bears v_told_soft v_told_cellars v_told_weight v_told_folk v_told_kind v_told_mustBeAbove v_told_strength (upd j12_v_ways (g12_x1 ||| (1 <<< (j12_x4 &&& 31))).toNatClampNeg ((j12_v_ways (g12_x1 ||| (1 <<< (j12_x4 &&& 31))).toNatClampNeg) + (j12_v_ways g12_x1.toNatClampNeg)))) := hD
          refine lv_iinc (v := j12_x4 + 1) (lv' := [(4, .int (j12_x4 + 1)), (0, .ref a_t), (1, .int g12_x1), (2, .int g12_x2), (3, .int g12_x3)]) hx hb dX4_passWaysOn_59 hl (k := 4) rfl (by rw [kc_i_1]) (by decide) rfl (fun ls hl => ?_)
          refine lv_goto (tgt := 12) hx hb dX4_passWaysOn_62 (by decide) ?_
          exact ih_12 (j12_x4 + 1) (upd j12_v_ways (g12_x1 ||| (1 <<< (j12_x4 &&& 31))).toNatClampNeg ((j12_v_ways (g12_x1 ||| (1 <<< (j12_x4 &&& 31))).toNatClampNeg) + (j12_v_ways g12_x1.toNatClampNeg))) ls H locs hf (lv_sub hl [1, 2, 3, 4, 0] rfl) hP hD hS
  obtain ⟨H, locs, eH, eL⟩ : ∃ (H : Heap) (locs : List Loc), H = s.heap ∧ locs = [] := ⟨_, _, rfl, rfl⟩
  rw [← eH] at hP
  have hS : va_S A s.heap H locs := by rw [eH, eL]; exact hS
  show W p l e rm_X4_passWaysOn s m args below meth c s.heap [] 0 0 Q (F0 m 0 ls [])
  rw [← eH, ← eL]
  refine lv_aload_n hx hb dX4_passWaysOn_0 rfl (lv_at hl 0 rfl) ?_
  refine gf_X4_19 hB hP 0 rfl rfl dX4_passWaysOn_1 ?_
  refine lv_iload_n hx hb dX4_passWaysOn_4 rfl (lv_at hl 1 rfl) ?_
  refine mx_gi (mx_runN (As := [.int x1]) (rest := []) hB (c_X1_loadOf l E a_told a_told_kind a_told_weight a_told_strength a_told_height a_told_folk a_told_mustBeAbove a_told_wind v_told_storeys v_told_pairs v_told_bears v_told_soft v_told_cellars v_told_weight v_told_folk x1 _ hf) sB_X1_loadOf sV_X1_loadOf wmn_X4_119 rfl (mx_ppV hB hP [1, 2, 3] rfl 1 rfl rfl rfl) hl.1 rfl (Nat.le_of_ble_eq_true rfl) dX4_passWaysOn_5 ⟨Nat.zero_le _, Nat.zero_le _⟩) (fun r1 hf => ?_)
  refine lv_istore_n (lv' := [(3, .int r1), (0, .ref a_t), (1, .int x1), (2, .int x2)]) hx hb dX4_passWaysOn_8 rfl hl (by decide) rfl (fun ls hl => ?_)
  refine lv_iconst hx hb dX4_passWaysOn_9 kc_i_0 ?_
  refine lv_istore (lv' := [(4, .int 0), (3, .int r1), (0, .ref a_t), (1, .int x1), (2, .int x2)]) hx hb dX4_passWaysOn_10 hl (by decide) rfl (fun ls hl => ?_)
  obtain ⟨n9, hf⟩ := hf
  exact L_12 x1 x2 r1 n9 0 v_ways ls H locs hf (lv_sub hl [2, 3, 4, 1, 0] rfl) hP hD hS
theorem c_X4_passWaysOn (l : Launch) (E : mx_E) (a_t : Nat) (a_text : Nat) (a_told : Nat) (a_reader : Nat) (a_tower : Nat) (a_kept : Nat) (a_isKept : Nat) (a_lifts : Nat) (a_seenAt : Nat) (a_seenInches : Nat) (a_ways : Nat) (a_trial : Nat) (a_told_kind : Nat) (a_told_weight : Nat) (a_told_strength : Nat) (a_told_height : Nat) (a_told_folk : Nat) (a_told_mustBeAbove : Nat) (a_told_wind : Nat) (v_liftsMany : Int32) (v_seenMany : Int32) (v_told_storeys : Int32) (v_told_pairs : Int32) (v_told_bears : Int32) (v_told_soft : Int32) (v_told_cellars : Int32) (v_told_weight : (Nat → Int32)) (v_told_folk : (Nat → Int32)) (v_told_kind : (Nat → Int32)) (v_told_mustBeAbove : (Nat → Int32)) (v_told_strength : (Nat → Int32)) (v_ways : (Nat → Int32)) (sz : Nat) (x1 : Int32) (x2 : Int32) (post : (Nat → Int32) → Prop) (hf : f_X4_passWaysOn v_told_storeys v_told_weight v_told_folk v_told_kind v_told_cellars v_told_mustBeAbove v_told_strength v_ways x1 x2 post) : Met l yX4_passWaysOn (Cond.code yX4_passWaysOn cX4_passWaysOn 5 none :: mx_WS) rm_X4_passWaysOn (va_Pc [.ref a_t, .int x1, .int x2] (mx_Pw E (w_X4_passWaysOn E a_t a_text a_told a_reader a_tower a_kept a_isKept a_lifts a_seenAt a_seenInches a_ways a_trial a_told_kind a_told_weight a_told_strength a_told_height a_told_folk a_told_mustBeAbove a_told_wind v_liftsMany v_seenMany v_told_storeys v_told_pairs v_told_bears v_told_soft v_told_cellars v_told_weight v_told_folk v_told_kind v_told_mustBeAbove v_told_strength v_ways) sz)) (va_Qv (fun (u : (Nat → Int32)) => post u) (fun u t => va_P E.1 vwCl (w_X4_passWaysOn E a_t a_text a_told a_reader a_tower a_kept a_isKept a_lifts a_seenAt a_seenInches a_ways a_trial a_told_kind a_told_weight a_told_strength a_told_height a_told_folk a_told_mustBeAbove a_told_wind v_liftsMany v_seenMany v_told_storeys v_told_pairs v_told_bears v_told_soft v_told_cellars v_told_weight v_told_folk v_told_kind v_told_mustBeAbove v_told_strength u) t.heap) (va_A (w_X4_passWaysOn E a_t a_text a_told a_reader a_tower a_kept a_isKept a_lifts a_seenAt a_seenInches a_ways a_trial a_told_kind a_told_weight a_told_strength a_told_height a_told_folk a_told_mustBeAbove a_told_wind v_liftsMany v_seenMany v_told_storeys v_told_pairs v_told_bears v_told_soft v_told_cellars v_told_weight v_told_folk v_told_kind v_told_mustBeAbove v_told_strength v_ways) sz)) 0 0 (va_A (w_X4_passWaysOn E a_t a_text a_told a_reader a_tower a_kept a_isKept a_lifts a_seenAt a_seenInches a_ways a_trial a_told_kind a_told_weight a_told_strength a_told_height a_told_folk a_told_mustBeAbove a_told_wind v_liftsMany v_seenMany v_told_storeys v_told_pairs v_told_bears v_told_soft v_told_cellars v_told_weight v_told_folk v_told_kind v_told_mustBeAbove v_told_strength v_ways) sz) :=
  mx_metWv (by decide) rfl rfl (fun hB hP hD hA hRet ls hl => b_X4_passWaysOn E a_t a_text a_told a_reader a_tower a_kept a_isKept a_lifts a_seenAt a_seenInches a_ways a_trial a_told_kind a_told_weight a_told_strength a_told_height a_told_folk a_told_mustBeAbove a_told_wind v_liftsMany v_seenMany v_told_storeys v_told_pairs v_told_bears v_told_soft v_told_cellars v_told_weight v_told_folk v_told_kind v_told_mustBeAbove v_told_strength v_ways x1 x2 post hB hP hD hA hRet hf ls hl)
def rm_X4_countWaysTo : Room := { frames := 4, cells := 0, slots := 0, locals := 90 }
set_option maxHeartbeats 4000000 in
set_option maxRecDepth 100000 in
theorem b_X4_countWaysTo {p : Program} {l : Launch} {e : Env} {s : State} {m : MethodId} {args : Array Value} {below : List Frame} {meth : Method} {c : Code} {Q : State → Prop} {A : Nat → Prop} (E : mx_E) (a_t : Nat) (a_text : Nat) (a_told : Nat) (a_reader : Nat) (a_tower : Nat) (a_kept : Nat) (a_isKept : Nat) (a_lifts : Nat) (a_seenAt : Nat) (a_seenInches : Nat) (a_ways : Nat) (a_trial : Nat) (a_told_kind : Nat) (a_told_weight : Nat) (a_told_strength : Nat) (a_told_height : Nat) (a_told_folk : Nat) (a_told_mustBeAbove : Nat) (a_told_wind : Nat) (v_liftsMany : Int32) (v_seenMany : Int32) (v_told_storeys : Int32) (v_told_pairs : Int32) (v_told_bears : Int32) (v_told_soft : Int32) (v_told_cellars : Int32) (v_ways : (Nat → Int32)) (v_told_weight : (Nat → Int32)) (v_told_folk : (Nat → Int32)) (v_told_kind : (Nat → Int32)) (v_told_mustBeAbove : (Nat → Int32)) (v_told_strength : (Nat → Int32)) (x1 : Int32) (post : (Nat → Int32) → Prop) (hB : mx_B p m c cX4_countWaysTo 4 s args RX4 E) (hP : va_P E.1 vwCl (w_X4_countWaysTo E a_t a_text a_told a_reader a_tower a_kept a_isKept a_lifts a_seenAt a_seenInches a_ways a_trial a_told_kind a_told_weight a_told_strength a_told_height a_told_folk a_told_mustBeAbove a_told_wind v_liftsMany v_seenMany v_told_storeys v_told_pairs v_told_bears v_told_soft v_told_cellars v_ways v_told_weight v_told_folk v_told_kind v_told_mustBeAbove v_told_strength) s.heap) (hD : va_D A (w_X4_countWaysTo E a_t a_text a_told a_reader a_tower a_kept a_isKept a_lifts a_seenAt a_seenInches a_ways a_trial a_told_kind a_told_weight a_told_strength a_told_height a_told_folk a_told_mustBeAbove a_told_wind v_liftsMany v_seenMany v_told_storeys v_told_pairs v_told_bears v_told_soft v_told_cellars v_ways v_told_weight v_told_folk v_told_kind v_told_mustBeAbove v_told_strength)) (hA : ∀ q : Nat, s.heap.size ≤ q → A q) (hRet : ∀ (u : (Nat → Int32)) (pc : Nat) (ls : Array Slot) (H : Heap) (locs : List Loc), decode cX4_countWaysTo pc = .ok (.return_, 1) → post u → va_P E.1 vwCl (w_X4_countWaysTo E a_t a_text a_told a_reader a_tower a_kept a_isKept a_lifts a_seenAt a_seenInches a_ways a_trial a_told_kind a_told_weight a_told_strength a_told_height a_told_folk a_told_mustBeAbove a_told_wind v_liftsMany v_seenMany v_told_storeys v_told_pairs v_told_bears v_told_soft v_told_cellars u v_told_weight v_told_folk v_told_kind v_told_mustBeAbove v_told_strength) H → va_S A s.heap H locs → W p l e rm_X4_countWaysTo s m args below meth c H locs 0 0 Q (F0 m pc ls [])) (hf : f_X4_countWaysTo v_told_storeys v_told_weight v_told_folk v_told_kind v_told_cellars v_told_mustBeAbove v_told_strength v_ways x1 post) (ls : Array Slot) (hl : lv_has ls 4 [(0, .ref a_t), (1, .int x1)]) : W p l e rm_X4_countWaysTo s m args below meth c s.heap [] 0 0 Q (F0 m 0 ls []) := by
  have hx := hB.x
  have hb := hB.b
  have hS : va_S A s.heap s.heap [] := va_S.rf
  have L_37 : ∀ (g37_x1 : Int32) (g37_x2 : Int32) (n : Nat) (j37_x3 : Int32) (j37_v_ways : (Nat → Int32)) (ls : Array Slot) (H : Heap) (locs : List Loc), mx_l2 (f_X4_countWaysTo_37 v_told_storeys v_told_weight v_told_folk v_told_kind v_told_cellars v_told_mustBeAbove v_told_strength post g37_x1 g37_x2) n j37_x3 j37_v_ways → lv_has ls 4 [(0, .ref a_t), (1, .int g37_x1), (2, .int g37_x2), (3, .int j37_x3)] → va_P E.1 vwCl (w_X4_countWaysTo E a_t a_text a_told a_reader a_tower a_kept a_isKept a_lifts a_seenAt a_seenInches a_ways a_trial a_told_kind a_told_weight a_told_strength a_told_height a_told_folk a_told_mustBeAbove a_told_wind v_liftsMany v_seenMany v_told_storeys v_told_pairs v_told_bears v_told_soft v_told_cellars j37_v_ways v_told_weight v_told_folk v_told_kind v_told_mustBeAbove v_told_strength) H → va_D A (w_X4_countWaysTo E a_t a_text a_told a_reader a_tower a_kept a_isKept a_lifts a_seenAt a_seenInches a_ways a_trial a_told_kind a_told_weight a_told_strength a_told_height a_told_folk a_told_mustBeAbove a_told_wind v_liftsMany v_seenMany v_told_storeys v_told_pairs v_told_bears v_told_soft v_told_cellars j37_v_ways v_told_weight v_told_folk v_told_kind v_told_mustBeAbove v_told_strength) → va_S A s.heap H locs → W p l e rm_X4_countWaysTo s m args below meth c H locs 0 0 Q (F0 m 37 ls []) := by
    intro g37_x1 g37_x2 n_37
    induction n_37 with
    | zero =>
      intro j37_x3 j37_v_ways ls H locs hf hl hP hD hS
      exact False.elim hf
    | succ n_37 ih_37 =>
      intro j37_x3 j37_v_ways ls H locs hf hl hP hD hS
      replace hf : f_X4_countWaysTo_37 v_told_storeys v_told_weight v_told_folk v_told_kind v_told_cellars v_told_mustBeAbove v_told_strength post g37_x1 g37_x2 (mx_l2 (f_X4_countWaysTo_37 v_told_storeys v_told_weight v_told_folk v_told_kind v_told_cellars v_told_mustBeAbove v_told_strength post g37_x1 g37_x2) n_37) j37_x3 j37_v_ways := hf
      refine lv_iload_n hx hb dX4_countWaysTo_37 rfl (lv_at hl 3 rfl) ?_
      refine lv_iload_n hx hb dX4_countWaysTo_38 rfl (lv_at hl 2 rfl) ?_
      refine lv_icmp_ge (tgt := 63) hx hb dX4_countWaysTo_39 (by decide) (fun c39 => ?_) (fun c39 => ?_)
      · have hf := hf.1 c39
        exact hRet j37_v_ways 63 ls H locs dX4_countWaysTo_63 hf hP hS
      · have hf := hf.2 c39
        refine lv_aload_n hx hb dX4_countWaysTo_42 rfl (lv_at hl 0 rfl) ?_
        refine gf_X4_57 hB hP 0 rfl rfl dX4_countWaysTo_43 ?_
        refine lv_iload_n hx hb dX4_countWaysTo_46 rfl (lv_at hl 3 rfl) ?_
        obtain ⟨h_in, hf⟩ := hf
        refine va_iald hx hb hB.K hP 2 0 rfl rfl h_in dX4_countWaysTo_47 ?_
        refine lv_if_le (tgt := 57) hx hb dX4_countWaysTo_48 (by decide) (fun c48 => ?_) (fun c48 => ?_)
        · have hf := hf.1 c48
          refine lv_iinc (v := j37_x3 + 1) (lv' := [(3, .int (j37_x3 + 1)), (0, .ref a_t), (1, .int g37_x1), (2, .int g37_x2)]) hx hb dX4_countWaysTo_57 hl (k := 3) rfl (by rw [kc_i_1]) (by decide) rfl (fun ls hl => ?_)
          refine lv_goto (tgt := 37) hx hb dX4_countWaysTo_60 (by decide) ?_
          exact ih_37 (j37_x3 + 1) j37_v_ways ls H locs hf (lv_sub hl [1, 2, 3, 0] rfl) hP hD hS
        · have hf := hf.2 c48
          refine lv_aload_n hx hb dX4_countWaysTo_51 rfl (lv_at hl 0 rfl) ?_
          refine lv_iload_n hx hb dX4_countWaysTo_52 rfl (lv_at hl 3 rfl) ?_
          refine lv_iload_n hx hb dX4_countWaysTo_53 rfl (lv_at hl 1 rfl) ?_
          refine mx_wv (mx_runV (As := [.int j37_x3, .int g37_x1]) (rest := []) hB (c_X4_passWaysOn l E a_t a_text a_told a_reader a_tower a_kept a_isKept a_lifts a_seenAt a_seenInches a_ways a_trial a_told_kind a_told_weight a_told_strength a_told_height a_told_folk a_told_mustBeAbove a_told_wind v_liftsMany v_seenMany v_told_storeys v_told_pairs v_told_bears v_told_soft v_told_cellars v_told_weight v_told_folk v_told_kind v_told_mustBeAbove v_told_strength j37_v_ways H.size j37_x3 g37_x1 _ hf) sB_X4_passWaysOn sV_X4_passWaysOn wml_X4_186 rfl (mx_pwV hB hP hD [0, 1, 3, 4, 5, 6, 7, 2] (by decide) rfl rfl 4 rfl rfl rfl) hl.1 rfl (Nat.le_of_ble_eq_true rfl) dX4_countWaysTo_54 ⟨Nat.zero_le _, Nat.zero_le _⟩) hP hD hS hA [0, 1, 3, 4, 5, 6, 7, 2] [] 8 rfl (fun u => w_X4_countWaysTo E a_t a_text a_told a_reader a_tower a_kept a_isKept a_lifts a_seenAt a_seenInches a_ways a_trial a_told_kind a_told_weight a_told_strength a_told_height a_told_folk a_told_mustBeAbove a_told_wind v_liftsMany v_seenMany v_told_storeys v_told_pairs v_told_bears v_told_soft v_told_cellars u v_told_weight v_told_folk v_told_kind v_told_mustBeAbove v_told_strength) (fun _ => rfl) (by decide) (fun _ => rfl) (fun _ => rfl) rfl (fun _ => rfl) (fun u H locs hf hP hD hS => ?_)
          obtain ⟨u2, rfl⟩ : ∃ z, z = u := ⟨_, rfl⟩
          have hP : va_P E.1 vwCl (w_X4_countWaysTo E a_t a_text a_told a_reader a_tower a_kept a_isKept a_lifts a_seenAt a_seenInches a_ways a_trial a_told_kind a_told_weight a_told_strength a_told_height a_told_folk a_told_mustBeAbove a_told_wind v_liftsMany v_seenMany v_told_storeys v_told_pairs v_told_bears v_told_soft v_told_cellars u2 v_told_weight v_told_folk v_told_kind v_told_mustBeAbove v_told_strength) H := hP
          have hD : va_D A (w_X4_countWaysTo E a_t a_text a_told a_reader a_tower a_kept a_isKept a_lifts a_seenAt a_seenInches a_ways a_trial a_told_kind a_told_weight a_told_strength a_told_height a_told_folk a_told_mustBeAbove a_told_wind v_liftsMany v_seenMany v_told_storeys v_told_pairs v_told_bears v_told_soft v_told_cellars u2 v_told_weight v_told_folk v_told_kind v_told_mustBeAbove v_told_strength) := hD
          refine lv_iinc (v := j37_x3 + 1) (lv' := [(3, .int (j37_x3 + 1)), (0, .ref a_t), (1, .int g37_x1), (2, .int g37_x2)]) hx hb dX4_countWaysTo_57 hl (k := 3) rfl (by rw [kc_i_1]) (by decide) rfl (fun ls hl => ?_)
          refine lv_goto (tgt := 37) hx hb dX4_countWaysTo_60 (by decide) ?_
          exact ih_37 (j37_x3 + 1) u2 ls H locs hf (lv_sub hl [1, 2, 3, 0] rfl) hP hD hS
  have J_28 : ∀ (j28_x1 : Int32) (j28_x2 : Int32) (j28_v_ways : (Nat → Int32)) (ls : Array Slot) (H : Heap) (locs : List Loc), f_X4_countWaysTo_28 v_told_storeys v_told_weight v_told_folk v_told_kind v_told_cellars v_told_mustBeAbove v_told_strength post j28_x1 j28_x2 j28_v_ways → lv_has ls 4 [(0, .ref a_t), (1, .int j28_x1), (2, .int j28_x2)] → va_P E.1 vwCl (w_X4_countWaysTo E a_t a_text a_told a_reader a_tower a_kept a_isKept a_lifts a_seenAt a_seenInches a_ways a_trial a_told_kind a_told_weight a_told_strength a_told_height a_told_folk a_told_mustBeAbove a_told_wind v_liftsMany v_seenMany v_told_storeys v_told_pairs v_told_bears v_told_soft v_told_cellars j28_v_ways v_told_weight v_told_folk v_told_kind v_told_mustBeAbove v_told_strength) H → va_D A (w_X4_countWaysTo E a_t a_text a_told a_reader a_tower a_kept a_isKept a_lifts a_seenAt a_seenInches a_ways a_trial a_told_kind a_told_weight a_told_strength a_told_height a_told_folk a_told_mustBeAbove a_told_wind v_liftsMany v_seenMany v_told_storeys v_told_pairs v_told_bears v_told_soft v_told_cellars j28_v_ways v_told_weight v_told_folk v_told_kind v_told_mustBeAbove v_told_strength) → va_S A s.heap H locs → W p l e rm_X4_countWaysTo s m args below meth c H locs 0 0 Q (F0 m 28 ls []) := by
    intro j28_x1 j28_x2 j28_v_ways ls H locs hf hl hP hD hS
    refine lv_aload_n hx hb dX4_countWaysTo_28 rfl (lv_at hl 0 rfl) ?_
    refine gf_X4_57 hB hP 0 rfl rfl dX4_countWaysTo_29 ?_
    refine lv_iconst hx hb dX4_countWaysTo_32 kc_i_0 ?_
    refine lv_iconst hx hb dX4_countWaysTo_33 kc_i_1 ?_
    obtain ⟨h_in, hf⟩ := hf
    refine va_iast hx hb hB.K hP hD hS 2 0 rfl rfl h_in dX4_countWaysTo_34 (fun H locs hP hD hS => ?_)
    have hP : va_P E.1 vwCl (w_X4_countWaysTo E a_t a_text a_told a_reader a_tower a_kept a_isKept a_lifts a_seenAt a_seenInches a_ways a_trial a_told_kind a_told_weight a_told_strength a_told_height a_told_folk a_told_mustBeAbove a_told_wind v_liftsMany v_seenMany v_told_storeys v_told_pairs v_told_bears v_told_soft v_told_cellars (upd j28_v_ways (0 : Int32).toNatClampNeg 1) v_told_weight v_told_folk v_told_kind v_told_mustBeAbove v_told_strength) H := hP
    have hD : va_D A (w_X4_countWaysTo E a_t a_text a_told a_reader a_tower a_kept a_isKept a_lifts a_seenAt a_seenInches a_ways a_trial a_told_kind a_told_weight a_told_strength a_told_height a_told_folk a_told_mustBeAbove a_told_wind v_liftsMany v_seenMany v_told_storeys v_told_pairs v_told_bears v_told_soft v_told_cellars (upd j28_v_ways (0 : Int32).toNatClampNeg 1) v_told_weight v_told_folk v_told_kind v_told_mustBeAbove v_told_strength) := hD
    refine lv_iconst hx hb dX4_countWaysTo_35 kc_i_0 ?_
    refine lv_istore_n (lv' := [(3, .int 0), (0, .ref a_t), (1, .int j28_x1), (2, .int j28_x2)]) hx hb dX4_countWaysTo_36 rfl hl (by decide) rfl (fun ls hl => ?_)
    obtain ⟨n9, hf⟩ := hf
    exact L_37 j28_x1 j28_x2 n9 0 (upd j28_v_ways (0 : Int32).toNatClampNeg 1) ls H locs hf (lv_sub hl [1, 2, 3, 0] rfl) hP hD hS
  have L_10 : ∀ (g10_x1 : Int32) (g10_x2 : Int32) (n : Nat) (j10_x3 : Int32) (j10_v_ways : (Nat → Int32)) (ls : Array Slot) (H : Heap) (locs : List Loc), mx_l2 (f_X4_countWaysTo_10 v_told_storeys v_told_weight v_told_folk v_told_kind v_told_cellars v_told_mustBeAbove v_told_strength post g10_x1 g10_x2) n j10_x3 j10_v_ways → lv_has ls 4 [(0, .ref a_t), (1, .int g10_x1), (2, .int g10_x2), (3, .int j10_x3)] → va_P E.1 vwCl (w_X4_countWaysTo E a_t a_text a_told a_reader a_tower a_kept a_isKept a_lifts a_seenAt a_seenInches a_ways a_trial a_told_kind a_told_weight a_told_strength a_told_height a_told_folk a_told_mustBeAbove a_told_wind v_liftsMany v_seenMany v_told_storeys v_told_pairs v_told_bears v_told_soft v_told_cellars j10_v_ways v_told_weight v_told_folk v_told_kind v_told_mustBeAbove v_told_strength) H → va_D A (w_X4_countWaysTo E a_t a_text a_told a_reader a_tower a_kept a_isKept a_lifts a_seenAt a_seenInches a_ways a_trial a_told_kind a_told_weight a_told_strength a_told_height a_told_folk a_told_mustBeAbove a_told_wind v_liftsMany v_seenMany v_told_storeys v_told_pairs v_told_bears v_told_soft v_told_cellars j10_v_ways v_told_weight v_told_folk v_told_kind v_told_mustBeAbove v_told_strength) → va_S A s.heap H locs → W p l e rm_X4_countWaysTo s m args below meth c H locs 0 0 Q (F0 m 10 ls []) := by
    intro g10_x1 g10_x2 n_10
    induction n_10 with
    | zero =>
      intro j10_x3 j10_v_ways ls H locs hf hl hP hD hS
      exact False.elim hf
    | succ n_10 ih_10 =>
      intro j10_x3 j10_v_ways ls H locs hf hl hP hD hS
      replace hf : f_X4_countWaysTo_10 v_told_storeys v_told_weight v_told_folk v_told_kind v_told_cellars v_told_mustBeAbove v_told_strength post g10_x1 g10_x2 (mx_l2 (f_X4_countWaysTo_10 v_told_storeys v_told_weight v_told_folk v_told_kind v_told_cellars v_told_mustBeAbove v_told_strength post g10_x1 g10_x2) n_10) j10_x3 j10_v_ways := hf
      refine lv_iload_n hx hb dX4_countWaysTo_10 rfl (lv_at hl 3 rfl) ?_
      refine lv_iload_n hx hb dX4_countWaysTo_11 rfl (lv_at hl 2 rfl) ?_
      refine lv_icmp_gt (tgt := 28) hx hb dX4_countWaysTo_12 (by decide) (fun c12 => ?_) (fun c12 => ?_)
      · have hf := hf.1 c12
        exact J_28 g10_x1 g10_x2 j10_v_ways ls H locs hf (lv_sub hl [0, 1, 2] rfl) hP hD hS
      · have hf := hf.2 c12
        refine lv_aload_n hx hb dX4_countWaysTo_15 rfl (lv_at hl 0 rfl) ?_
        refine gf_X4_57 hB hP 0 rfl rfl dX4_countWaysTo_16 ?_
        refine lv_iload_n hx hb dX4_countWaysTo_19 rfl (lv_at hl 3 rfl) ?_
        refine lv_iconst hx hb dX4_countWaysTo_20 kc_i_0 ?_
        obtain ⟨h_in, hf⟩ := hf
        refine va_iast hx hb hB.K hP hD hS 2 0 rfl rfl h_in dX4_countWaysTo_21 (fun H locs hP hD hS => ?_)
        have hP : va_P E.1 vwCl (w_X4_countWaysTo E a_t a_text a_told a_reader a_tower a_kept a_isKept a_lifts a_seenAt a_seenInches a_ways a_trial a_told_kind a_told_weight a_told_strength a_told_height a_told_folk a_told_mustBeAbove a_told_wind v_liftsMany v_seenMany v_told_storeys v_told_pairs v_told_bears v_told_soft v_told_cellars (upd j10_v_ways j10_x3.toNatClampNeg 0) v_told_weight v_told_folk v_told_kind v_told_mustBeAbove v_told_strength) H := hP
        have hD : va_D A (w_X4_countWaysTo E a_t a_text a_told a_reader a_tower a_kept a_isKept a_lifts a_seenAt a_seenInches a_ways a_trial a_told_kind a_told_weight a_told_strength a_told_height a_told_folk a_told_mustBeAbove a_told_wind v_liftsMany v_seenMany v_told_storeys v_told_pairs v_told_bears v_told_soft v_told_cellars (upd j10_v_ways j10_x3.toNatClampNeg 0) v_told_weight v_told_folk v_told_kind v_told_mustBeAbove v_told_strength) := hD
        refine lv_iinc (v := j10_x3 + 1) (lv' := [(3, .int (j10_x3 + 1)), (0, .ref a_t), (1, .int g10_x1), (2, .int g10_x2)]) hx hb dX4_countWaysTo_22 hl (k := 3) rfl (by rw [kc_i_1]) (by decide) rfl (fun ls hl => ?_)
        refine lv_goto (tgt := 10) hx hb dX4_countWaysTo_25 (by decide) ?_
        exact ih_10 (j10_x3 + 1) (upd j10_v_ways j10_x3.toNatClampNeg 0) ls H locs hf (lv_sub hl [1, 2, 3, 0] rfl) hP hD hS
  obtain ⟨H, locs, eH, eL⟩ : ∃ (H : Heap) (locs : List Loc), H = s.heap ∧ locs = [] := ⟨_, _, rfl, rfl⟩
  rw [← eH] at hP
  have hS : va_S A s.heap H locs := by rw [eH, eL]; exact hS
  show W p l e rm_X4_countWaysTo s m args below meth c s.heap [] 0 0 Q (F0 m 0 ls [])
  rw [← eH, ← eL]
  refine lv_aload_n hx hb dX4_countWaysTo_0 rfl (lv_at hl 0 rfl) ?_
  refine gf_X4_19 hB hP 0 rfl rfl dX4_countWaysTo_1 ?_
  refine mx_gi (mx_runN (As := []) (rest := []) hB (c_X1_all l E a_told a_told_kind a_told_weight a_told_strength a_told_height a_told_folk a_told_mustBeAbove a_told_wind v_told_storeys v_told_pairs v_told_bears v_told_soft v_told_cellars _ hf) sB_X1_all sV_X1_all wmn_X4_170 rfl (mx_ppV hB hP [1] rfl 1 rfl rfl rfl) hl.1 rfl (Nat.le_of_ble_eq_true rfl) dX4_countWaysTo_4 ⟨Nat.zero_le _, Nat.zero_le _⟩) (fun r1 hf => ?_)
  refine lv_istore_n (lv' := [(2, .int r1), (0, .ref a_t), (1, .int x1)]) hx hb dX4_countWaysTo_7 rfl hl (by decide) rfl (fun ls hl => ?_)
  refine lv_iconst hx hb dX4_countWaysTo_8 kc_i_0 ?_
  refine lv_istore_n (lv' := [(3, .int 0), (2, .int r1), (0, .ref a_t), (1, .int x1)]) hx hb dX4_countWaysTo_9 rfl hl (by decide) rfl (fun ls hl => ?_)
  obtain ⟨n9, hf⟩ := hf
  exact L_10 x1 r1 n9 0 v_ways ls H locs hf (lv_sub hl [2, 3, 1, 0] rfl) hP hD hS
theorem c_X4_countWaysTo (l : Launch) (E : mx_E) (a_t : Nat) (a_text : Nat) (a_told : Nat) (a_reader : Nat) (a_tower : Nat) (a_kept : Nat) (a_isKept : Nat) (a_lifts : Nat) (a_seenAt : Nat) (a_seenInches : Nat) (a_ways : Nat) (a_trial : Nat) (a_told_kind : Nat) (a_told_weight : Nat) (a_told_strength : Nat) (a_told_height : Nat) (a_told_folk : Nat) (a_told_mustBeAbove : Nat) (a_told_wind : Nat) (v_liftsMany : Int32) (v_seenMany : Int32) (v_told_storeys : Int32) (v_told_pairs : Int32) (v_told_bears : Int32) (v_told_soft : Int32) (v_told_cellars : Int32) (v_ways : (Nat → Int32)) (v_told_weight : (Nat → Int32)) (v_told_folk : (Nat → Int32)) (v_told_kind : (Nat → Int32)) (v_told_mustBeAbove : (Nat → Int32)) (v_told_strength : (Nat → Int32)) (sz : Nat) (x1 : Int32) (post : (Nat → Int32) → Prop) (hf : f_X4_countWaysTo v_told_storeys v_told_weight v_told_folk v_told_kind v_told_cellars v_told_mustBeAbove v_told_strength v_ways x1 post) : Met l yX4_countWaysTo (Cond.code yX4_countWaysTo cX4_countWaysTo 4 none :: mx_WS) rm_X4_countWaysTo (va_Pc [.ref a_t, .int x1] (mx_Pw E (w_X4_countWaysTo E a_t a_text a_told a_reader a_tower a_kept a_isKept a_lifts a_seenAt a_seenInches a_ways a_trial a_told_kind a_told_weight a_told_strength a_told_height a_told_folk a_told_mustBeAbove a_told_wind v_liftsMany v_seenMany v_told_storeys v_told_pairs v_told_bears v_told_soft v_told_cellars v_ways v_told_weight v_told_folk v_told_kind v_told_mustBeAbove v_told_strength) sz)) (va_Qv (fun (u : (Nat → Int32)) => post u) (fun u t => va_P E.1 vwCl (w_X4_countWaysTo E a_t a_text a_told a_reader a_tower a_kept a_isKept a_lifts a_seenAt a_seenInches a_ways a_trial a_told_kind a_told_weight a_told_strength a_told_height a_told_folk a_told_mustBeAbove a_told_wind v_liftsMany v_seenMany v_told_storeys v_told_pairs v_told_bears v_told_soft v_told_cellars u v_told_weight v_told_folk v_told_kind v_told_mustBeAbove v_told_strength) t.heap) (va_A (w_X4_countWaysTo E a_t a_text a_told a_reader a_tower a_kept a_isKept a_lifts a_seenAt a_seenInches a_ways a_trial a_told_kind a_told_weight a_told_strength a_told_height a_told_folk a_told_mustBeAbove a_told_wind v_liftsMany v_seenMany v_told_storeys v_told_pairs v_told_bears v_told_soft v_told_cellars v_ways v_told_weight v_told_folk v_told_kind v_told_mustBeAbove v_told_strength) sz)) 0 0 (va_A (w_X4_countWaysTo E a_t a_text a_told a_reader a_tower a_kept a_isKept a_lifts a_seenAt a_seenInches a_ways a_trial a_told_kind a_told_weight a_told_strength a_told_height a_told_folk a_told_mustBeAbove a_told_wind v_liftsMany v_seenMany v_told_storeys v_told_pairs v_told_bears v_told_soft v_told_cellars v_ways v_told_weight v_told_folk v_told_kind v_told_mustBeAbove v_told_strength) sz) :=
  mx_metWv (by decide) rfl rfl (fun hB hP hD hA hRet ls hl => b_X4_countWaysTo E a_t a_text a_told a_reader a_tower a_kept a_isKept a_lifts a_seenAt a_seenInches a_ways a_trial a_told_kind a_told_weight a_told_strength a_told_height a_told_folk a_told_mustBeAbove a_told_wind v_liftsMany v_seenMany v_told_storeys v_told_pairs v_told_bears v_told_soft v_told_cellars v_ways v_told_weight v_told_folk v_told_kind v_told_mustBeAbove v_told_strength x1 post hB hP hD hA hRet hf ls hl)
def rm_X4_tallest : Room := { frames := 5, cells := 0, slots := 0, locals := 113 }
set_option maxHeartbeats 4000000 in
set_option maxRecDepth 100000 in
theorem b_X4_tallest {p : Program} {l : Launch} {e : Env} {s : State} {m : MethodId} {args : Array Value} {below : List Frame} {meth : Method} {c : Code} {Q : State → Prop} {A : Nat → Prop} (E : mx_E) (a_t : Nat) (a_text : Nat) (a_told : Nat) (a_reader : Nat) (a_tower : Nat) (a_kept : Nat) (a_isKept : Nat) (a_lifts : Nat) (a_seenAt : Nat) (a_seenInches : Nat) (a_ways : Nat) (a_trial : Nat) (a_told_kind : Nat) (a_told_weight : Nat) (a_told_strength : Nat) (a_told_height : Nat) (a_told_folk : Nat) (a_told_mustBeAbove : Nat) (a_told_wind : Nat) (v_liftsMany : Int32) (v_seenMany : Int32) (v_told_storeys : Int32) (v_told_pairs : Int32) (v_told_bears : Int32) (v_told_soft : Int32) (v_told_cellars : Int32) (v_ways : (Nat → Int32)) (v_told_weight : (Nat → Int32)) (v_told_folk : (Nat → Int32)) (v_told_kind : (Nat → Int32)) (v_told_mustBeAbove : (Nat → Int32)) (v_told_strength : (Nat → Int32)) (v_told_height : (Nat → Int32)) (x1 : Int32) (post : Int32 → (Nat → Int32) → Prop) (hB : mx_B p m c cX4_tallest 6 s args RX4 E) (hP : va_P E.1 vwCl (w_X4_tallest E a_t a_text a_told a_reader a_tower a_kept a_isKept a_lifts a_seenAt a_seenInches a_ways a_trial a_told_kind a_told_weight a_told_strength a_told_height a_told_folk a_told_mustBeAbove a_told_wind v_liftsMany v_seenMany v_told_storeys v_told_pairs v_told_bears v_told_soft v_told_cellars v_ways v_told_weight v_told_folk v_told_kind v_told_mustBeAbove v_told_strength v_told_height) s.heap) (hD : va_D A (w_X4_tallest E a_t a_text a_told a_reader a_tower a_kept a_isKept a_lifts a_seenAt a_seenInches a_ways a_trial a_told_kind a_told_weight a_told_strength a_told_height a_told_folk a_told_mustBeAbove a_told_wind v_liftsMany v_seenMany v_told_storeys v_told_pairs v_told_bears v_told_soft v_told_cellars v_ways v_told_weight v_told_folk v_told_kind v_told_mustBeAbove v_told_strength v_told_height)) (hA : ∀ q : Nat, s.heap.size ≤ q → A q) (hRet : ∀ (v : Int32) (u : (Nat → Int32)) (pc : Nat) (ls : Array Slot) (H : Heap) (locs : List Loc), decode cX4_tallest pc = .ok (.ireturn, 1) → post v u → va_P E.1 vwCl (w_X4_tallest E a_t a_text a_told a_reader a_tower a_kept a_isKept a_lifts a_seenAt a_seenInches a_ways a_trial a_told_kind a_told_weight a_told_strength a_told_height a_told_folk a_told_mustBeAbove a_told_wind v_liftsMany v_seenMany v_told_storeys v_told_pairs v_told_bears v_told_soft v_told_cellars u v_told_weight v_told_folk v_told_kind v_told_mustBeAbove v_told_strength v_told_height) H → va_S A s.heap H locs → W p l e rm_X4_tallest s m args below meth c H locs 0 0 Q (F0 m pc ls [.int v])) (hf : f_X4_tallest v_told_bears v_told_storeys v_told_weight v_told_folk v_told_kind v_told_cellars v_told_mustBeAbove v_told_strength v_told_height v_ways x1 post) (ls : Array Slot) (hl : lv_has ls 6 [(0, .ref a_t), (1, .int x1)]) : W p l e rm_X4_tallest s m args below meth c s.heap [] 0 0 Q (F0 m 0 ls []) := by
  have hx := hB.x
  have hb := hB.b
  have hS : va_S A s.heap s.heap [] := va_S.rf
  have J_85 : ∀ (j85_x1 : Int32) (j85_x2 : Int32) (j85_x3 : Int32) (j85_v_ways : (Nat → Int32)) (ls : Array Slot) (H : Heap) (locs : List Loc), f_X4_tallest_85 v_told_bears v_told_storeys v_told_weight v_told_folk v_told_kind v_told_cellars v_told_mustBeAbove v_told_strength v_told_height post j85_x1 j85_x2 j85_x3 j85_v_ways → lv_has ls 6 [(1, .int j85_x1), (2, .int j85_x2), (3, .int j85_x3)] → va_P E.1 vwCl (w_X4_tallest E a_t a_text a_told a_reader a_tower a_kept a_isKept a_lifts a_seenAt a_seenInches a_ways a_trial a_told_kind a_told_weight a_told_strength a_told_height a_told_folk a_told_mustBeAbove a_told_wind v_liftsMany v_seenMany v_told_storeys v_told_pairs v_told_bears v_told_soft v_told_cellars j85_v_ways v_told_weight v_told_folk v_told_kind v_told_mustBeAbove v_told_strength v_told_height) H → va_D A (w_X4_tallest E a_t a_text a_told a_reader a_tower a_kept a_isKept a_lifts a_seenAt a_seenInches a_ways a_trial a_told_kind a_told_weight a_told_strength a_told_height a_told_folk a_told_mustBeAbove a_told_wind v_liftsMany v_seenMany v_told_storeys v_told_pairs v_told_bears v_told_soft v_told_cellars j85_v_ways v_told_weight v_told_folk v_told_kind v_told_mustBeAbove v_told_strength v_told_height) → va_S A s.heap H locs → W p l e rm_X4_tallest s m args below meth c H locs 0 0 Q (F0 m 85 ls []) := by
    intro j85_x1 j85_x2 j85_x3 j85_v_ways ls H locs hf hl hP hD hS
    refine lv_iload_n hx hb dX4_tallest_85 rfl (lv_at hl 0 rfl) ?_
    refine lv_if_ne (tgt := 93) hx hb dX4_tallest_86 (by decide) (fun c86 => ?_) (fun c86 => ?_)
    · have hf := hf.1 c86
      refine lv_iload_n hx hb dX4_tallest_93 rfl (lv_at hl 1 rfl) ?_
      exact hRet j85_x2 j85_v_ways 94 ls H locs dX4_tallest_94 hf hP hS
    · have hf := hf.2 c86
      refine lv_iload_n hx hb dX4_tallest_89 rfl (lv_at hl 2 rfl) ?_
      refine lv_goto (tgt := 94) hx hb dX4_tallest_90 (by decide) ?_
      exact hRet j85_x3 j85_v_ways 94 ls H locs dX4_tallest_94 hf hP hS
  have L_30 : ∀ (g30_x1 : Int32) (g30_v_ways : (Nat → Int32)) (n : Nat) (j30_x2 : Int32) (j30_x3 : Int32) (j30_x4 : Int32) (ls : Array Slot) (H : Heap) (locs : List Loc), mx_l3 (f_X4_tallest_30 v_told_bears v_told_storeys v_told_weight v_told_folk v_told_kind v_told_cellars v_told_mustBeAbove v_told_strength v_told_height post g30_x1 g30_v_ways) n j30_x2 j30_x3 j30_x4 → lv_has ls 6 [(0, .ref a_t), (1, .int g30_x1), (2, .int j30_x2), (3, .int j30_x3), (4, .int j30_x4)] → va_P E.1 vwCl (w_X4_tallest E a_t a_text a_told a_reader a_tower a_kept a_isKept a_lifts a_seenAt a_seenInches a_ways a_trial a_told_kind a_told_weight a_told_strength a_told_height a_told_folk a_told_mustBeAbove a_told_wind v_liftsMany v_seenMany v_told_storeys v_told_pairs v_told_bears v_told_soft v_told_cellars g30_v_ways v_told_weight v_told_folk v_told_kind v_told_mustBeAbove v_told_strength v_told_height) H → va_D A (w_X4_tallest E a_t a_text a_told a_reader a_tower a_kept a_isKept a_lifts a_seenAt a_seenInches a_ways a_trial a_told_kind a_told_weight a_told_strength a_told_height a_told_folk a_told_mustBeAbove a_told_wind v_liftsMany v_seenMany v_told_storeys v_told_pairs v_told_bears v_told_soft v_told_cellars g30_v_ways v_told_weight v_told_folk v_told_kind v_told_mustBeAbove v_told_strength v_told_height) → va_S A s.heap H locs → W p l e rm_X4_tallest s m args below meth c H locs 0 0 Q (F0 m 30 ls []) := by
    intro g30_x1 g30_v_ways n_30
    induction n_30 with
    | zero =>
      intro j30_x2 j30_x3 j30_x4 ls H locs hf hl hP hD hS
      exact False.elim hf
    | succ n_30 ih_30 =>
      have J_65 : ∀ (j65_x2 : Int32) (j65_x3 : Int32) (j65_x4 : Int32) (j65_k0 : Int32) (ls : Array Slot) (H : Heap) (locs : List Loc), f_X4_tallest_65 v_told_bears v_told_storeys v_told_weight v_told_folk v_told_kind v_told_cellars v_told_mustBeAbove v_told_strength v_told_height (mx_l3 (f_X4_tallest_30 v_told_bears v_told_storeys v_told_weight v_told_folk v_told_kind v_told_cellars v_told_mustBeAbove v_told_strength v_told_height post g30_x1 g30_v_ways) n_30) post g30_x1 j65_x2 j65_x3 j65_x4 j65_k0 g30_v_ways → lv_has ls 6 [(0, .ref a_t), (1, .int g30_x1), (2, .int j65_x2), (3, .int j65_x3), (4, .int j65_x4)] → va_P E.1 vwCl (w_X4_tallest E a_t a_text a_told a_reader a_tower a_kept a_isKept a_lifts a_seenAt a_seenInches a_ways a_trial a_told_kind a_told_weight a_told_strength a_told_height a_told_folk a_told_mustBeAbove a_told_wind v_liftsMany v_seenMany v_told_storeys v_told_pairs v_told_bears v_told_soft v_told_cellars g30_v_ways v_told_weight v_told_folk v_told_kind v_told_mustBeAbove v_told_strength v_told_height) H → va_D A (w_X4_tallest E a_t a_text a_told a_reader a_tower a_kept a_isKept a_lifts a_seenAt a_seenInches a_ways a_trial a_told_kind a_told_weight a_told_strength a_told_height a_told_folk a_told_mustBeAbove a_told_wind v_liftsMany v_seenMany v_told_storeys v_told_pairs v_told_bears v_told_soft v_told_cellars g30_v_ways v_told_weight v_told_folk v_told_kind v_told_mustBeAbove v_told_strength v_told_height) → va_S A s.heap H locs → W p l e rm_X4_tallest s m args below meth c H locs 0 0 Q (F0 m 65 ls [.int j65_k0]) := by
        intro j65_x2 j65_x3 j65_x4 j65_k0 ls H locs hf hl hP hD hS
        refine lv_istore (lv' := [(5, .int j65_k0), (0, .ref a_t), (1, .int g30_x1), (2, .int j65_x2), (3, .int j65_x3), (4, .int j65_x4)]) hx hb dX4_tallest_65 hl (by decide) rfl (fun ls hl => ?_)
        refine lv_iload hx hb dX4_tallest_67 (lv_at hl 0 rfl) ?_
        refine lv_iload_n hx hb dX4_tallest_69 rfl (lv_at hl 4 rfl) ?_
        refine lv_icmp_le (tgt := 79) hx hb dX4_tallest_70 (by decide) (fun c70 => ?_) (fun c70 => ?_)
        · have hf := hf.1 c70
          refine lv_iinc (v := j65_x4 + 1) (lv' := [(4, .int (j65_x4 + 1)), (5, .int j65_k0), (0, .ref a_t), (1, .int g30_x1), (2, .int j65_x2), (3, .int j65_x3)]) hx hb dX4_tallest_79 hl (k := 5) rfl (by rw [kc_i_1]) (by decide) rfl (fun ls hl => ?_)
          refine lv_goto (tgt := 30) hx hb dX4_tallest_82 (by decide) ?_
          exact ih_30 j65_x2 j65_x3 (j65_x4 + 1) ls H locs hf (lv_sub hl [2, 3, 4, 5, 0] rfl) hP hD hS
        · have hf := hf.2 c70
          refine lv_iload hx hb dX4_tallest_73 (lv_at hl 5 rfl) ?_
          refine lv_istore_n (lv' := [(2, .int j65_x4), (5, .int j65_k0), (0, .ref a_t), (1, .int g30_x1), (3, .int j65_x3), (4, .int j65_x4)]) hx hb dX4_tallest_75 rfl hl (by decide) rfl (fun ls hl => ?_)
          refine lv_iload hx hb dX4_tallest_76 (lv_at hl 1 rfl) ?_
          refine lv_istore_n (lv' := [(3, .int j65_k0), (2, .int j65_x4), (5, .int j65_k0), (0, .ref a_t), (1, .int g30_x1), (4, .int j65_x4)]) hx hb dX4_tallest_78 rfl hl (by decide) rfl (fun ls hl => ?_)
          refine lv_iinc (v := j65_x4 + 1) (lv' := [(4, .int (j65_x4 + 1)), (3, .int j65_k0), (2, .int j65_x4), (5, .int j65_k0), (0, .ref a_t), (1, .int g30_x1)]) hx hb dX4_tallest_79 hl (k := 5) rfl (by rw [kc_i_1]) (by decide) rfl (fun ls hl => ?_)
          refine lv_goto (tgt := 30) hx hb dX4_tallest_82 (by decide) ?_
          exact ih_30 j65_x4 j65_k0 (j65_x4 + 1) ls H locs hf (lv_sub hl [4, 5, 2, 1, 0] rfl) hP hD hS
      intro j30_x2 j30_x3 j30_x4 ls H locs hf hl hP hD hS
      replace hf : f_X4_tallest_30 v_told_bears v_told_storeys v_told_weight v_told_folk v_told_kind v_told_cellars v_told_mustBeAbove v_told_strength v_told_height post g30_x1 g30_v_ways (mx_l3 (f_X4_tallest_30 v_told_bears v_told_storeys v_told_weight v_told_folk v_told_kind v_told_cellars v_told_mustBeAbove v_told_strength v_told_height post g30_x1 g30_v_ways) n_30) j30_x2 j30_x3 j30_x4 := hf
      refine lv_iload hx hb dX4_tallest_30 (lv_at hl 4 rfl) ?_
      refine lv_aload_n hx hb dX4_tallest_32 rfl (lv_at hl 0 rfl) ?_
      refine gf_X4_19 hB hP 0 rfl rfl dX4_tallest_33 ?_
      refine mx_gi (mx_runN (As := []) (rest := [.int j30_x4]) hB (c_X1_all l E a_told a_told_kind a_told_weight a_told_strength a_told_height a_told_folk a_told_mustBeAbove a_told_wind v_told_storeys v_told_pairs v_told_bears v_told_soft v_told_cellars _ hf) sB_X1_all sV_X1_all wmn_X4_170 rfl (mx_ppV hB hP [1] rfl 1 rfl rfl rfl) hl.1 rfl (Nat.le_of_ble_eq_true rfl) dX4_tallest_36 ⟨Nat.zero_le _, Nat.zero_le _⟩) (fun r1 hf => ?_)
      refine lv_icmp_gt (tgt := 85) hx hb dX4_tallest_39 (by decide) (fun c39 => ?_) (fun c39 => ?_)
      · have hf := hf.1 c39
        exact J_85 g30_x1 j30_x2 j30_x3 g30_v_ways ls H locs hf (lv_sub hl [1, 2, 3] rfl) hP hD hS
      · have hf := hf.2 c39
        refine lv_aload_n hx hb dX4_tallest_42 rfl (lv_at hl 0 rfl) ?_
        refine gf_X4_57 hB hP 0 rfl rfl dX4_tallest_43 ?_
        refine lv_iload hx hb dX4_tallest_46 (lv_at hl 4 rfl) ?_
        obtain ⟨h_in, hf⟩ := hf
        refine va_iald hx hb hB.K hP 2 0 rfl rfl h_in dX4_tallest_48 ?_
        refine lv_if_le (tgt := 64) hx hb dX4_tallest_49 (by decide) (fun c49 => ?_) (fun c49 => ?_)
        · have hf := hf.1 c49
          refine lv_iconst hx hb dX4_tallest_64 kc_i_0 ?_
          exact J_65 j30_x2 j30_x3 j30_x4 0 ls H locs hf (lv_sub hl [0, 1, 2, 3, 4] rfl) hP hD hS
        · have hf := hf.2 c49
          refine lv_aload_n hx hb dX4_tallest_52 rfl (lv_at hl 0 rfl) ?_
          refine gf_X4_19 hB hP 0 rfl rfl dX4_tallest_53 ?_
          refine lv_iload hx hb dX4_tallest_56 (lv_at hl 4 rfl) ?_
          refine mx_gi (mx_runN (As := [.int j30_x4]) (rest := []) hB (c_X1_heightOf l E a_told a_told_kind a_told_weight a_told_strength a_told_height a_told_folk a_told_mustBeAbove a_told_wind v_told_storeys v_told_pairs v_told_bears v_told_soft v_told_cellars v_told_height j30_x4 _ hf) sB_X1_heightOf sV_X1_heightOf wmn_X4_152 rfl (mx_ppV hB hP [1, 8] rfl 1 rfl rfl rfl) hl.1 rfl (Nat.le_of_ble_eq_true rfl) dX4_tallest_58 ⟨Nat.zero_le _, Nat.zero_le _⟩) (fun r2 hf => ?_)
          refine lv_goto (tgt := 65) hx hb dX4_tallest_61 (by decide) ?_
          exact J_65 j30_x2 j30_x3 j30_x4 r2 ls H locs hf (lv_sub hl [0, 1, 2, 3, 4] rfl) hP hD hS
  obtain ⟨H, locs, eH, eL⟩ : ∃ (H : Heap) (locs : List Loc), H = s.heap ∧ locs = [] := ⟨_, _, rfl, rfl⟩
  rw [← eH] at hP
  have hS : va_S A s.heap H locs := by rw [eH, eL]; exact hS
  show W p l e rm_X4_tallest s m args below meth c s.heap [] 0 0 Q (F0 m 0 ls [])
  rw [← eH, ← eL]
  refine lv_iload_n hx hb dX4_tallest_0 rfl (lv_at hl 1 rfl) ?_
  refine lv_if_lt (tgt := 9) hx hb dX4_tallest_1 (by decide) (fun c1 => ?_) (fun c1 => ?_)
  · have hf := hf.1 c1
    refine lv_bipush hx hb dX4_tallest_9 kc_b_m3 ?_
    exact hRet (-3) v_ways 11 ls H locs dX4_tallest_11 hf hP hS
  · have hf := hf.2 c1
    refine lv_iload_n hx hb dX4_tallest_4 rfl (lv_at hl 1 rfl) ?_
    refine lv_iconst hx hb dX4_tallest_5 kc_i_1 ?_
    refine lv_icmp_le (tgt := 12) hx hb dX4_tallest_6 (by decide) (fun c6 => ?_) (fun c6 => ?_)
    · have hf := hf.1 c6
      refine lv_aload_n hx hb dX4_tallest_12 rfl (lv_at hl 0 rfl) ?_
      refine lv_aload_n hx hb dX4_tallest_13 rfl (lv_at hl 0 rfl) ?_
      refine gf_X4_19 hB hP 0 rfl rfl dX4_tallest_14 ?_
      refine gf_X4_173 hB hP 1 rfl rfl dX4_tallest_17 ?_
      refine mx_wv (mx_runV (As := [.int v_told_bears]) (rest := []) hB (c_X4_countWaysTo l E a_t a_text a_told a_reader a_tower a_kept a_isKept a_lifts a_seenAt a_seenInches a_ways a_trial a_told_kind a_told_weight a_told_strength a_told_height a_told_folk a_told_mustBeAbove a_told_wind v_liftsMany v_seenMany v_told_storeys v_told_pairs v_told_bears v_told_soft v_told_cellars v_ways v_told_weight v_told_folk v_told_kind v_told_mustBeAbove v_told_strength H.size v_told_bears _ hf) sB_X4_countWaysTo sV_X4_countWaysTo wml_X4_183 rfl (mx_pwV hB hP hD [0, 1, 2, 3, 4, 5, 6, 7] (by decide) rfl rfl 4 rfl rfl rfl) hl.1 rfl (Nat.le_of_ble_eq_true rfl) dX4_tallest_20 ⟨Nat.zero_le _, Nat.zero_le _⟩) hP hD hS hA [0, 1, 2, 3, 4, 5, 6, 7] [8] 9 rfl (fun u => w_X4_tallest E a_t a_text a_told a_reader a_tower a_kept a_isKept a_lifts a_seenAt a_seenInches a_ways a_trial a_told_kind a_told_weight a_told_strength a_told_height a_told_folk a_told_mustBeAbove a_told_wind v_liftsMany v_seenMany v_told_storeys v_told_pairs v_told_bears v_told_soft v_told_cellars u v_told_weight v_told_folk v_told_kind v_told_mustBeAbove v_told_strength v_told_height) (fun _ => rfl) (by decide) (fun _ => rfl) (fun _ => rfl) rfl (fun _ => rfl) (fun u H locs hf hP hD hS => ?_)
      obtain ⟨u2, rfl⟩ : ∃ z, z = u := ⟨_, rfl⟩
      have hP : va_P E.1 vwCl (w_X4_tallest E a_t a_text a_told a_reader a_tower a_kept a_isKept a_lifts a_seenAt a_seenInches a_ways a_trial a_told_kind a_told_weight a_told_strength a_told_height a_told_folk a_told_mustBeAbove a_told_wind v_liftsMany v_seenMany v_told_storeys v_told_pairs v_told_bears v_told_soft v_told_cellars u2 v_told_weight v_told_folk v_told_kind v_told_mustBeAbove v_told_strength v_told_height) H := hP
      have hD : va_D A (w_X4_tallest E a_t a_text a_told a_reader a_tower a_kept a_isKept a_lifts a_seenAt a_seenInches a_ways a_trial a_told_kind a_told_weight a_told_strength a_told_height a_told_folk a_told_mustBeAbove a_told_wind v_liftsMany v_seenMany v_told_storeys v_told_pairs v_told_bears v_told_soft v_told_cellars u2 v_told_weight v_told_folk v_told_kind v_told_mustBeAbove v_told_strength v_told_height) := hD
      refine lv_iconst hx hb dX4_tallest_23 kc_i_0 ?_
      refine lv_istore_n (lv' := [(2, .int 0), (0, .ref a_t), (1, .int x1)]) hx hb dX4_tallest_24 rfl hl (by decide) rfl (fun ls hl => ?_)
      refine lv_iconst hx hb dX4_tallest_25 kc_i_0 ?_
      refine lv_istore_n (lv' := [(3, .int 0), (2, .int 0), (0, .ref a_t), (1, .int x1)]) hx hb dX4_tallest_26 rfl hl (by decide) rfl (fun ls hl => ?_)
      refine lv_iconst hx hb dX4_tallest_27 kc_i_1 ?_
      refine lv_istore (lv' := [(4, .int 1), (3, .int 0), (2, .int 0), (0, .ref a_t), (1, .int x1)]) hx hb dX4_tallest_28 hl (by decide) rfl (fun ls hl => ?_)
      obtain ⟨n9, hf⟩ := hf
      exact L_30 x1 u2 n9 0 0 1 ls H locs hf (lv_sub hl [3, 4, 2, 1, 0] rfl) hP hD hS
    · have hf := hf.2 c6
      refine lv_bipush hx hb dX4_tallest_9 kc_b_m3 ?_
      exact hRet (-3) v_ways 11 ls H locs dX4_tallest_11 hf hP hS
theorem c_X4_tallest (l : Launch) (E : mx_E) (a_t : Nat) (a_text : Nat) (a_told : Nat) (a_reader : Nat) (a_tower : Nat) (a_kept : Nat) (a_isKept : Nat) (a_lifts : Nat) (a_seenAt : Nat) (a_seenInches : Nat) (a_ways : Nat) (a_trial : Nat) (a_told_kind : Nat) (a_told_weight : Nat) (a_told_strength : Nat) (a_told_height : Nat) (a_told_folk : Nat) (a_told_mustBeAbove : Nat) (a_told_wind : Nat) (v_liftsMany : Int32) (v_seenMany : Int32) (v_told_storeys : Int32) (v_told_pairs : Int32) (v_told_bears : Int32) (v_told_soft : Int32) (v_told_cellars : Int32) (v_ways : (Nat → Int32)) (v_told_weight : (Nat → Int32)) (v_told_folk : (Nat → Int32)) (v_told_kind : (Nat → Int32)) (v_told_mustBeAbove : (Nat → Int32)) (v_told_strength : (Nat → Int32)) (v_told_height : (Nat → Int32)) (sz : Nat) (x1 : Int32) (post : Int32 → (Nat → Int32) → Prop) (hf : f_X4_tallest v_told_bears v_told_storeys v_told_weight v_told_folk v_told_kind v_told_cellars v_told_mustBeAbove v_told_strength v_told_height v_ways x1 post) : Met l yX4_tallest (Cond.code yX4_tallest cX4_tallest 6 (some .int) :: mx_WS) rm_X4_tallest (va_Pc [.ref a_t, .int x1] (mx_Pw E (w_X4_tallest E a_t a_text a_told a_reader a_tower a_kept a_isKept a_lifts a_seenAt a_seenInches a_ways a_trial a_told_kind a_told_weight a_told_strength a_told_height a_told_folk a_told_mustBeAbove a_told_wind v_liftsMany v_seenMany v_told_storeys v_told_pairs v_told_bears v_told_soft v_told_cellars v_ways v_told_weight v_told_folk v_told_kind v_told_mustBeAbove v_told_strength v_told_height) sz)) (va_Qi (fun (v : Int32) (u : (Nat → Int32)) => post v u) (fun u t => va_P E.1 vwCl (w_X4_tallest E a_t a_text a_told a_reader a_tower a_kept a_isKept a_lifts a_seenAt a_seenInches a_ways a_trial a_told_kind a_told_weight a_told_strength a_told_height a_told_folk a_told_mustBeAbove a_told_wind v_liftsMany v_seenMany v_told_storeys v_told_pairs v_told_bears v_told_soft v_told_cellars u v_told_weight v_told_folk v_told_kind v_told_mustBeAbove v_told_strength v_told_height) t.heap) (va_A (w_X4_tallest E a_t a_text a_told a_reader a_tower a_kept a_isKept a_lifts a_seenAt a_seenInches a_ways a_trial a_told_kind a_told_weight a_told_strength a_told_height a_told_folk a_told_mustBeAbove a_told_wind v_liftsMany v_seenMany v_told_storeys v_told_pairs v_told_bears v_told_soft v_told_cellars v_ways v_told_weight v_told_folk v_told_kind v_told_mustBeAbove v_told_strength v_told_height) sz)) 0 0 (va_A (w_X4_tallest E a_t a_text a_told a_reader a_tower a_kept a_isKept a_lifts a_seenAt a_seenInches a_ways a_trial a_told_kind a_told_weight a_told_strength a_told_height a_told_folk a_told_mustBeAbove a_told_wind v_liftsMany v_seenMany v_told_storeys v_told_pairs v_told_bears v_told_soft v_told_cellars v_ways v_told_weight v_told_folk v_told_kind v_told_mustBeAbove v_told_strength v_told_height) sz) :=
  mx_metWi (by decide) rfl rfl (fun hB hP hD hA hRet ls hl => b_X4_tallest E a_t a_text a_told a_reader a_tower a_kept a_isKept a_lifts a_seenAt a_seenInches a_ways a_trial a_told_kind a_told_weight a_told_strength a_told_height a_told_folk a_told_mustBeAbove a_told_wind v_liftsMany v_seenMany v_told_storeys v_told_pairs v_told_bears v_told_soft v_told_cellars v_ways v_told_weight v_told_folk v_told_kind v_told_mustBeAbove v_told_strength v_told_height x1 post hB hP hD hA hRet hf ls hl)
def rm_X4_jacks : Room := { frames := 5, cells := 0, slots := 0, locals := 113 }
set_option maxHeartbeats 4000000 in
set_option maxRecDepth 100000 in
theorem b_X4_jacks {p : Program} {l : Launch} {e : Env} {s : State} {m : MethodId} {args : Array Value} {below : List Frame} {meth : Method} {c : Code} {Q : State → Prop} {A : Nat → Prop} (E : mx_E) (a_t : Nat) (a_text : Nat) (a_told : Nat) (a_reader : Nat) (a_tower : Nat) (a_kept : Nat) (a_isKept : Nat) (a_lifts : Nat) (a_seenAt : Nat) (a_seenInches : Nat) (a_ways : Nat) (a_trial : Nat) (a_told_kind : Nat) (a_told_weight : Nat) (a_told_strength : Nat) (a_told_height : Nat) (a_told_folk : Nat) (a_told_mustBeAbove : Nat) (a_told_wind : Nat) (v_liftsMany : Int32) (v_seenMany : Int32) (v_told_storeys : Int32) (v_told_pairs : Int32) (v_told_bears : Int32) (v_told_soft : Int32) (v_told_cellars : Int32) (v_ways : (Nat → Int32)) (v_told_weight : (Nat → Int32)) (v_told_folk : (Nat → Int32)) (v_told_kind : (Nat → Int32)) (v_told_mustBeAbove : (Nat → Int32)) (v_told_strength : (Nat → Int32))  (post : Int32 → (Nat → Int32) → Prop) (hB : mx_B p m c cX4_jacks 6 s args RX4 E) (hP : va_P E.1 vwCl (w_X4_jacks E a_t a_text a_told a_reader a_tower a_kept a_isKept a_lifts a_seenAt a_seenInches a_ways a_trial a_told_kind a_told_weight a_told_strength a_told_height a_told_folk a_told_mustBeAbove a_told_wind v_liftsMany v_seenMany v_told_storeys v_told_pairs v_told_bears v_told_soft v_told_cellars v_ways v_told_weight v_told_folk v_told_kind v_told_mustBeAbove v_told_strength) s.heap) (hD : va_D A (w_X4_jacks E a_t a_text a_told a_reader a_tower a_kept a_isKept a_lifts a_seenAt a_seenInches a_ways a_trial a_told_kind a_told_weight a_told_strength a_told_height a_told_folk a_told_mustBeAbove a_told_wind v_liftsMany v_seenMany v_told_storeys v_told_pairs v_told_bears v_told_soft v_told_cellars v_ways v_told_weight v_told_folk v_told_kind v_told_mustBeAbove v_told_strength)) (hA : ∀ q : Nat, s.heap.size ≤ q → A q) (hRet : ∀ (v : Int32) (u : (Nat → Int32)) (pc : Nat) (ls : Array Slot) (H : Heap) (locs : List Loc), decode cX4_jacks pc = .ok (.ireturn, 1) → post v u → va_P E.1 vwCl (w_X4_jacks E a_t a_text a_told a_reader a_tower a_kept a_isKept a_lifts a_seenAt a_seenInches a_ways a_trial a_told_kind a_told_weight a_told_strength a_told_height a_told_folk a_told_mustBeAbove a_told_wind v_liftsMany v_seenMany v_told_storeys v_told_pairs v_told_bears v_told_soft v_told_cellars u v_told_weight v_told_folk v_told_kind v_told_mustBeAbove v_told_strength) H → va_S A s.heap H locs → W p l e rm_X4_jacks s m args below meth c H locs 0 0 Q (F0 m pc ls [.int v])) (hf : f_X4_jacks v_told_storeys v_told_weight v_told_folk v_told_kind v_told_cellars v_told_mustBeAbove v_told_strength v_ways post) (ls : Array Slot) (hl : lv_has ls 6 [(0, .ref a_t)]) : W p l e rm_X4_jacks s m args below meth c s.heap [] 0 0 Q (F0 m 0 ls []) := by
  have hx := hB.x
  have hb := hB.b
  have hS : va_S A s.heap s.heap [] := va_S.rf
  have L_23 : ∀ (g23_v_ways : (Nat → Int32)) (n : Nat) (j23_x1 : Int32) (j23_x2 : Int32) (ls : Array Slot) (H : Heap) (locs : List Loc), mx_l2 (f_X4_jacks_23 v_told_storeys v_told_weight v_told_folk v_told_kind v_told_cellars v_told_mustBeAbove v_told_strength post g23_v_ways) n j23_x1 j23_x2 → lv_has ls 6 [(0, .ref a_t), (1, .int j23_x1), (2, .int j23_x2)] → va_P E.1 vwCl (w_X4_jacks E a_t a_text a_told a_reader a_tower a_kept a_isKept a_lifts a_seenAt a_seenInches a_ways a_trial a_told_kind a_told_weight a_told_strength a_told_height a_told_folk a_told_mustBeAbove a_told_wind v_liftsMany v_seenMany v_told_storeys v_told_pairs v_told_bears v_told_soft v_told_cellars g23_v_ways v_told_weight v_told_folk v_told_kind v_told_mustBeAbove v_told_strength) H → va_D A (w_X4_jacks E a_t a_text a_told a_reader a_tower a_kept a_isKept a_lifts a_seenAt a_seenInches a_ways a_trial a_told_kind a_told_weight a_told_strength a_told_height a_told_folk a_told_mustBeAbove a_told_wind v_liftsMany v_seenMany v_told_storeys v_told_pairs v_told_bears v_told_soft v_told_cellars g23_v_ways v_told_weight v_told_folk v_told_kind v_told_mustBeAbove v_told_strength) → va_S A s.heap H locs → W p l e rm_X4_jacks s m args below meth c H locs 0 0 Q (F0 m 23 ls []) := by
    intro g23_v_ways n_23
    induction n_23 with
    | zero =>
      intro j23_x1 j23_x2 ls H locs hf hl hP hD hS
      exact False.elim hf
    | succ n_23 ih_23 =>
      have J_89 : ∀ (j89_x1 : Int32) (j89_x2 : Int32) (j89_x4 : Int32) (j89_k0 : Int32) (ls : Array Slot) (H : Heap) (locs : List Loc), f_X4_jacks_89 v_told_storeys v_told_weight v_told_folk v_told_kind v_told_cellars v_told_mustBeAbove v_told_strength (mx_l2 (f_X4_jacks_23 v_told_storeys v_told_weight v_told_folk v_told_kind v_told_cellars v_told_mustBeAbove v_told_strength post g23_v_ways) n_23) post j89_x1 j89_x2 j89_x4 j89_k0 g23_v_ways → lv_has ls 6 [(0, .ref a_t), (1, .int j89_x1), (2, .int j89_x2), (4, .int j89_x4)] → va_P E.1 vwCl (w_X4_jacks E a_t a_text a_told a_reader a_tower a_kept a_isKept a_lifts a_seenAt a_seenInches a_ways a_trial a_told_kind a_told_weight a_told_strength a_told_height a_told_folk a_told_mustBeAbove a_told_wind v_liftsMany v_seenMany v_told_storeys v_told_pairs v_told_bears v_told_soft v_told_cellars g23_v_ways v_told_weight v_told_folk v_told_kind v_told_mustBeAbove v_told_strength) H → va_D A (w_X4_jacks E a_t a_text a_told a_reader a_tower a_kept a_isKept a_lifts a_seenAt a_seenInches a_ways a_trial a_told_kind a_told_weight a_told_strength a_told_height a_told_folk a_told_mustBeAbove a_told_wind v_liftsMany v_seenMany v_told_storeys v_told_pairs v_told_bears v_told_soft v_told_cellars g23_v_ways v_told_weight v_told_folk v_told_kind v_told_mustBeAbove v_told_strength) → va_S A s.heap H locs → W p l e rm_X4_jacks s m args below meth c H locs 0 0 Q (F0 m 89 ls [.int j89_k0]) := by
        intro j89_x1 j89_x2 j89_x4 j89_k0 ls H locs hf hl hP hD hS
        refine lv_istore (lv' := [(5, .int j89_k0), (0, .ref a_t), (1, .int j89_x1), (2, .int j89_x2), (4, .int j89_x4)]) hx hb dX4_jacks_89 hl (by decide) rfl (fun ls hl => ?_)
        refine lv_iload hx hb dX4_jacks_91 (lv_at hl 0 rfl) ?_
        refine lv_if_eq (tgt := 110) hx hb dX4_jacks_93 (by decide) (fun c93 => ?_) (fun c93 => ?_)
        · have hf := hf.1 c93
          refine lv_iinc (v := j89_x2 + 1) (lv' := [(2, .int (j89_x2 + 1)), (5, .int j89_k0), (0, .ref a_t), (1, .int j89_x1), (4, .int j89_x4)]) hx hb dX4_jacks_110 hl (k := 3) rfl (by rw [kc_i_1]) (by decide) rfl (fun ls hl => ?_)
          refine lv_goto (tgt := 23) hx hb dX4_jacks_113 (by decide) ?_
          exact ih_23 j89_x1 (j89_x2 + 1) ls H locs hf (lv_sub hl [2, 3, 0] rfl) hP hD hS
        · have hf := hf.2 c93
          refine lv_iload_n hx hb dX4_jacks_96 rfl (lv_at hl 2 rfl) ?_
          refine lv_iconst hx hb dX4_jacks_97 kc_i_m1 ?_
          refine lv_icmp_eq (tgt := 107) hx hb dX4_jacks_98 (by decide) (fun c98 => ?_) (fun c98 => ?_)
          · have hf := hf.1 c98
            refine lv_iload hx hb dX4_jacks_107 (lv_at hl 4 rfl) ?_
            refine lv_istore_n (lv' := [(1, .int j89_x4), (5, .int j89_k0), (0, .ref a_t), (2, .int j89_x2), (4, .int j89_x4)]) hx hb dX4_jacks_109 rfl hl (by decide) rfl (fun ls hl => ?_)
            refine lv_iinc (v := j89_x2 + 1) (lv' := [(2, .int (j89_x2 + 1)), (1, .int j89_x4), (5, .int j89_k0), (0, .ref a_t), (4, .int j89_x4)]) hx hb dX4_jacks_110 hl (k := 3) rfl (by rw [kc_i_1]) (by decide) rfl (fun ls hl => ?_)
            refine lv_goto (tgt := 23) hx hb dX4_jacks_113 (by decide) ?_
            exact ih_23 j89_x4 (j89_x2 + 1) ls H locs hf (lv_sub hl [3, 1, 0] rfl) hP hD hS
          · have hf := hf.2 c98
            refine lv_iload hx hb dX4_jacks_101 (lv_at hl 4 rfl) ?_
            refine lv_iload_n hx hb dX4_jacks_103 rfl (lv_at hl 2 rfl) ?_
            refine lv_icmp_ge (tgt := 110) hx hb dX4_jacks_104 (by decide) (fun c104 => ?_) (fun c104 => ?_)
            · have hf := hf.1 c104
              refine lv_iinc (v := j89_x2 + 1) (lv' := [(2, .int (j89_x2 + 1)), (5, .int j89_k0), (0, .ref a_t), (1, .int j89_x1), (4, .int j89_x4)]) hx hb dX4_jacks_110 hl (k := 3) rfl (by rw [kc_i_1]) (by decide) rfl (fun ls hl => ?_)
              refine lv_goto (tgt := 23) hx hb dX4_jacks_113 (by decide) ?_
              exact ih_23 j89_x1 (j89_x2 + 1) ls H locs hf (lv_sub hl [2, 3, 0] rfl) hP hD hS
            · have hf := hf.2 c104
              refine lv_iload hx hb dX4_jacks_107 (lv_at hl 4 rfl) ?_
              refine lv_istore_n (lv' := [(1, .int j89_x4), (5, .int j89_k0), (0, .ref a_t), (2, .int j89_x2), (4, .int j89_x4)]) hx hb dX4_jacks_109 rfl hl (by decide) rfl (fun ls hl => ?_)
              refine lv_iinc (v := j89_x2 + 1) (lv' := [(2, .int (j89_x2 + 1)), (1, .int j89_x4), (5, .int j89_k0), (0, .ref a_t), (4, .int j89_x4)]) hx hb dX4_jacks_110 hl (k := 3) rfl (by rw [kc_i_1]) (by decide) rfl (fun ls hl => ?_)
              refine lv_goto (tgt := 23) hx hb dX4_jacks_113 (by decide) ?_
              exact ih_23 j89_x4 (j89_x2 + 1) ls H locs hf (lv_sub hl [3, 1, 0] rfl) hP hD hS
      have J_88 : ∀ (j88_x1 : Int32) (j88_x2 : Int32) (j88_x4 : Int32) (ls : Array Slot) (H : Heap) (locs : List Loc), f_X4_jacks_88 v_told_storeys v_told_weight v_told_folk v_told_kind v_told_cellars v_told_mustBeAbove v_told_strength (mx_l2 (f_X4_jacks_23 v_told_storeys v_told_weight v_told_folk v_told_kind v_told_cellars v_told_mustBeAbove v_told_strength post g23_v_ways) n_23) post j88_x1 j88_x2 j88_x4 g23_v_ways → lv_has ls 6 [(0, .ref a_t), (1, .int j88_x1), (2, .int j88_x2), (4, .int j88_x4)] → va_P E.1 vwCl (w_X4_jacks E a_t a_text a_told a_reader a_tower a_kept a_isKept a_lifts a_seenAt a_seenInches a_ways a_trial a_told_kind a_told_weight a_told_strength a_told_height a_told_folk a_told_mustBeAbove a_told_wind v_liftsMany v_seenMany v_told_storeys v_told_pairs v_told_bears v_told_soft v_told_cellars g23_v_ways v_told_weight v_told_folk v_told_kind v_told_mustBeAbove v_told_strength) H → va_D A (w_X4_jacks E a_t a_text a_told a_reader a_tower a_kept a_isKept a_lifts a_seenAt a_seenInches a_ways a_trial a_told_kind a_told_weight a_told_strength a_told_height a_told_folk a_told_mustBeAbove a_told_wind v_liftsMany v_seenMany v_told_storeys v_told_pairs v_told_bears v_told_soft v_told_cellars g23_v_ways v_told_weight v_told_folk v_told_kind v_told_mustBeAbove v_told_strength) → va_S A s.heap H locs → W p l e rm_X4_jacks s m args below meth c H locs 0 0 Q (F0 m 88 ls []) := by
        intro j88_x1 j88_x2 j88_x4 ls H locs hf hl hP hD hS
        refine lv_iconst hx hb dX4_jacks_88 kc_i_0 ?_
        exact J_89 j88_x1 j88_x2 j88_x4 0 ls H locs hf (lv_sub hl [0, 1, 2, 3] rfl) hP hD hS
      intro j23_x1 j23_x2 ls H locs hf hl hP hD hS
      replace hf : f_X4_jacks_23 v_told_storeys v_told_weight v_told_folk v_told_kind v_told_cellars v_told_mustBeAbove v_told_strength post g23_v_ways (mx_l2 (f_X4_jacks_23 v_told_storeys v_told_weight v_told_folk v_told_kind v_told_cellars v_told_mustBeAbove v_told_strength post g23_v_ways) n_23) j23_x1 j23_x2 := hf
      refine lv_iload_n hx hb dX4_jacks_23 rfl (lv_at hl 2 rfl) ?_
      refine lv_aload_n hx hb dX4_jacks_24 rfl (lv_at hl 0 rfl) ?_
      refine gf_X4_19 hB hP 0 rfl rfl dX4_jacks_25 ?_
      refine gf_X4_164 hB hP 1 rfl rfl dX4_jacks_28 ?_
      refine lv_icmp_ge (tgt := 116) hx hb dX4_jacks_31 (by decide) (fun c31 => ?_) (fun c31 => ?_)
      · have hf := hf.1 c31
        refine lv_iload_n hx hb dX4_jacks_116 rfl (lv_at hl 1 rfl) ?_
        exact hRet j23_x1 g23_v_ways 117 ls H locs dX4_jacks_117 hf hP hS
      · have hf := hf.2 c31
        refine lv_aload_n hx hb dX4_jacks_34 rfl (lv_at hl 0 rfl) ?_
        refine gf_X4_19 hB hP 0 rfl rfl dX4_jacks_35 ?_
        refine mx_gi (mx_runN (As := []) (rest := []) hB (c_X1_all l E a_told a_told_kind a_told_weight a_told_strength a_told_height a_told_folk a_told_mustBeAbove a_told_wind v_told_storeys v_told_pairs v_told_bears v_told_soft v_told_cellars _ hf) sB_X1_all sV_X1_all wmn_X4_170 rfl (mx_ppV hB hP [1] rfl 1 rfl rfl rfl) hl.1 rfl (Nat.le_of_ble_eq_true rfl) dX4_jacks_38 ⟨Nat.zero_le _, Nat.zero_le _⟩) (fun r1 hf => ?_)
        refine lv_iconst hx hb dX4_jacks_41 kc_i_1 ?_
        refine lv_iload_n hx hb dX4_jacks_42 rfl (lv_at hl 2 rfl) ?_
        refine lv_ishl hx hb dX4_jacks_43 ?_
        refine lv_iconst hx hb dX4_jacks_44 kc_i_m1 ?_
        refine lv_ixor hx hb dX4_jacks_45 ?_
        refine lv_iand hx hb dX4_jacks_46 ?_
        refine lv_istore_n (lv' := [(3, .int (r1 &&& ((1 <<< (j23_x2 &&& 31)) ^^^ (-1)))), (0, .ref a_t), (1, .int j23_x1), (2, .int j23_x2)]) hx hb dX4_jacks_47 rfl hl (by decide) rfl (fun ls hl => ?_)
        refine lv_aload_n hx hb dX4_jacks_48 rfl (lv_at hl 1 rfl) ?_
        refine gf_X4_19 hB hP 0 rfl rfl dX4_jacks_49 ?_
        refine lv_iload_n hx hb dX4_jacks_52 rfl (lv_at hl 0 rfl) ?_
        refine mx_gi (mx_runN (As := [.int (r1 &&& ((1 <<< (j23_x2 &&& 31)) ^^^ (-1)))]) (rest := []) hB (c_X1_loadOf l E a_told a_told_kind a_told_weight a_told_strength a_told_height a_told_folk a_told_mustBeAbove a_told_wind v_told_storeys v_told_pairs v_told_bears v_told_soft v_told_cellars v_told_weight v_told_folk (r1 &&& ((1 <<< (j23_x2 &&& 31)) ^^^ (-1))) _ hf) sB_X1_loadOf sV_X1_loadOf wmn_X4_119 rfl (mx_ppV hB hP [1, 3, 4] rfl 1 rfl rfl rfl) hl.1 rfl (Nat.le_of_ble_eq_true rfl) dX4_jacks_53 ⟨Nat.zero_le _, Nat.zero_le _⟩) (fun r2 hf => ?_)
        refine lv_istore (lv' := [(4, .int r2), (3, .int (r1 &&& ((1 <<< (j23_x2 &&& 31)) ^^^ (-1)))), (0, .ref a_t), (1, .int j23_x1), (2, .int j23_x2)]) hx hb dX4_jacks_56 hl (by decide) rfl (fun ls hl => ?_)
        refine lv_aload_n hx hb dX4_jacks_58 rfl (lv_at hl 2 rfl) ?_
        refine gf_X4_57 hB hP 0 rfl rfl dX4_jacks_59 ?_
        refine lv_iload_n hx hb dX4_jacks_62 rfl (lv_at hl 1 rfl) ?_
        obtain ⟨h_in, hf⟩ := hf
        refine va_iald hx hb hB.K hP 2 0 rfl rfl h_in dX4_jacks_63 ?_
        refine lv_if_le (tgt := 88) hx hb dX4_jacks_64 (by decide) (fun c64 => ?_) (fun c64 => ?_)
        · have hf := hf.1 c64
          exact J_88 j23_x1 j23_x2 r2 ls H locs hf (lv_sub hl [2, 3, 4, 0] rfl) hP hD hS
        · have hf := hf.2 c64
          refine lv_aload_n hx hb dX4_jacks_67 rfl (lv_at hl 2 rfl) ?_
          refine gf_X4_19 hB hP 0 rfl rfl dX4_jacks_68 ?_
          refine lv_iload_n hx hb dX4_jacks_71 rfl (lv_at hl 4 rfl) ?_
          refine lv_iload_n hx hb dX4_jacks_72 rfl (lv_at hl 1 rfl) ?_
          refine lv_iload hx hb dX4_jacks_73 (lv_at hl 0 rfl) ?_
          refine lv_sipush hx hb dX4_jacks_75 kc_s_9999 ?_
          refine mx_gi (mx_runN (As := [.int j23_x2, .int (r1 &&& ((1 <<< (j23_x2 &&& 31)) ^^^ (-1))), .int r2, .int 9999]) (rest := []) hB (c_X1_whyNot l E a_told a_told_kind a_told_weight a_told_strength a_told_height a_told_folk a_told_mustBeAbove a_told_wind v_told_storeys v_told_pairs v_told_bears v_told_soft v_told_cellars v_told_kind v_told_mustBeAbove v_told_strength j23_x2 (r1 &&& ((1 <<< (j23_x2 &&& 31)) ^^^ (-1))) r2 9999 _ hf) sB_X1_whyNot sV_X1_whyNot wmn_X4_176 rfl (mx_ppV hB hP [1, 5, 6, 7] rfl 1 rfl rfl rfl) hl.1 rfl (Nat.le_of_ble_eq_true rfl) dX4_jacks_78 ⟨Nat.zero_le _, Nat.zero_le _⟩) (fun r3 hf => ?_)
          refine lv_if_ne (tgt := 88) hx hb dX4_jacks_81 (by decide) (fun c81 => ?_) (fun c81 => ?_)
          · have hf := hf.1 c81
            exact J_88 j23_x1 j23_x2 r2 ls H locs hf (lv_sub hl [2, 3, 4, 0] rfl) hP hD hS
          · have hf := hf.2 c81
            refine lv_iconst hx hb dX4_jacks_84 kc_i_1 ?_
            refine lv_goto (tgt := 89) hx hb dX4_jacks_85 (by decide) ?_
            exact J_89 j23_x1 j23_x2 r2 1 ls H locs hf (lv_sub hl [2, 3, 4, 0] rfl) hP hD hS
  obtain ⟨H, locs, eH, eL⟩ : ∃ (H : Heap) (locs : List Loc), H = s.heap ∧ locs = [] := ⟨_, _, rfl, rfl⟩
  rw [← eH] at hP
  have hS : va_S A s.heap H locs := by rw [eH, eL]; exact hS
  show W p l e rm_X4_jacks s m args below meth c s.heap [] 0 0 Q (F0 m 0 ls [])
  rw [← eH, ← eL]
  refine lv_aload_n hx hb dX4_jacks_0 rfl (lv_at hl 0 rfl) ?_
  refine gf_X4_19 hB hP 0 rfl rfl dX4_jacks_1 ?_
  refine gf_X4_164 hB hP 1 rfl rfl dX4_jacks_4 ?_
  refine lv_if_ne (tgt := 12) hx hb dX4_jacks_7 (by decide) (fun c7 => ?_) (fun c7 => ?_)
  · have hf := hf.1 c7
    refine lv_aload_n hx hb dX4_jacks_12 rfl (lv_at hl 0 rfl) ?_
    refine lv_sipush hx hb dX4_jacks_13 kc_s_9999 ?_
    refine mx_wv (mx_runV (As := [.int 9999]) (rest := []) hB (c_X4_countWaysTo l E a_t a_text a_told a_reader a_tower a_kept a_isKept a_lifts a_seenAt a_seenInches a_ways a_trial a_told_kind a_told_weight a_told_strength a_told_height a_told_folk a_told_mustBeAbove a_told_wind v_liftsMany v_seenMany v_told_storeys v_told_pairs v_told_bears v_told_soft v_told_cellars v_ways v_told_weight v_told_folk v_told_kind v_told_mustBeAbove v_told_strength H.size 9999 _ hf) sB_X4_countWaysTo sV_X4_countWaysTo wml_X4_183 rfl (mx_pwV hB hP hD [0, 1, 2, 3, 4, 5, 6, 7] (by decide) rfl rfl 4 rfl rfl rfl) hl.1 rfl (Nat.le_of_ble_eq_true rfl) dX4_jacks_16 ⟨Nat.zero_le _, Nat.zero_le _⟩) hP hD hS hA [0, 1, 2, 3, 4, 5, 6, 7] [] 8 rfl (fun u => w_X4_jacks E a_t a_text a_told a_reader a_tower a_kept a_isKept a_lifts a_seenAt a_seenInches a_ways a_trial a_told_kind a_told_weight a_told_strength a_told_height a_told_folk a_told_mustBeAbove a_told_wind v_liftsMany v_seenMany v_told_storeys v_told_pairs v_told_bears v_told_soft v_told_cellars u v_told_weight v_told_folk v_told_kind v_told_mustBeAbove v_told_strength) (fun _ => rfl) (by decide) (fun _ => rfl) (fun _ => rfl) rfl (fun _ => rfl) (fun u H locs hf hP hD hS => ?_)
    obtain ⟨u2, rfl⟩ : ∃ z, z = u := ⟨_, rfl⟩
    have hP : va_P E.1 vwCl (w_X4_jacks E a_t a_text a_told a_reader a_tower a_kept a_isKept a_lifts a_seenAt a_seenInches a_ways a_trial a_told_kind a_told_weight a_told_strength a_told_height a_told_folk a_told_mustBeAbove a_told_wind v_liftsMany v_seenMany v_told_storeys v_told_pairs v_told_bears v_told_soft v_told_cellars u2 v_told_weight v_told_folk v_told_kind v_told_mustBeAbove v_told_strength) H := hP
    have hD : va_D A (w_X4_jacks E a_t a_text a_told a_reader a_tower a_kept a_isKept a_lifts a_seenAt a_seenInches a_ways a_trial a_told_kind a_told_weight a_told_strength a_told_height a_told_folk a_told_mustBeAbove a_told_wind v_liftsMany v_seenMany v_told_storeys v_told_pairs v_told_bears v_told_soft v_told_cellars u2 v_told_weight v_told_folk v_told_kind v_told_mustBeAbove v_told_strength) := hD
    refine lv_iconst hx hb dX4_jacks_19 kc_i_m1 ?_
    refine lv_istore_n (lv' := [(1, .int (-1)), (0, .ref a_t)]) hx hb dX4_jacks_20 rfl hl (by decide) rfl (fun ls hl => ?_)
    refine lv_iconst hx hb dX4_jacks_21 kc_i_0 ?_
    refine lv_istore_n (lv' := [(2, .int 0), (1, .int (-1)), (0, .ref a_t)]) hx hb dX4_jacks_22 rfl hl (by decide) rfl (fun ls hl => ?_)
    obtain ⟨n9, hf⟩ := hf
    exact L_23 u2 n9 (-1) 0 ls H locs hf (lv_sub hl [2, 1, 0] rfl) hP hD hS
  · have hf := hf.2 c7
    refine lv_iconst hx hb dX4_jacks_10 kc_i_0 ?_
    exact hRet 0 v_ways 11 ls H locs dX4_jacks_11 hf hP hS
theorem c_X4_jacks (l : Launch) (E : mx_E) (a_t : Nat) (a_text : Nat) (a_told : Nat) (a_reader : Nat) (a_tower : Nat) (a_kept : Nat) (a_isKept : Nat) (a_lifts : Nat) (a_seenAt : Nat) (a_seenInches : Nat) (a_ways : Nat) (a_trial : Nat) (a_told_kind : Nat) (a_told_weight : Nat) (a_told_strength : Nat) (a_told_height : Nat) (a_told_folk : Nat) (a_told_mustBeAbove : Nat) (a_told_wind : Nat) (v_liftsMany : Int32) (v_seenMany : Int32) (v_told_storeys : Int32) (v_told_pairs : Int32) (v_told_bears : Int32) (v_told_soft : Int32) (v_told_cellars : Int32) (v_ways : (Nat → Int32)) (v_told_weight : (Nat → Int32)) (v_told_folk : (Nat → Int32)) (v_told_kind : (Nat → Int32)) (v_told_mustBeAbove : (Nat → Int32)) (v_told_strength : (Nat → Int32)) (sz : Nat)  (post : Int32 → (Nat → Int32) → Prop) (hf : f_X4_jacks v_told_storeys v_told_weight v_told_folk v_told_kind v_told_cellars v_told_mustBeAbove v_told_strength v_ways post) : Met l yX4_jacks (Cond.code yX4_jacks cX4_jacks 6 (some .int) :: mx_WS) rm_X4_jacks (va_Pc [.ref a_t] (mx_Pw E (w_X4_jacks E a_t a_text a_told a_reader a_tower a_kept a_isKept a_lifts a_seenAt a_seenInches a_ways a_trial a_told_kind a_told_weight a_told_strength a_told_height a_told_folk a_told_mustBeAbove a_told_wind v_liftsMany v_seenMany v_told_storeys v_told_pairs v_told_bears v_told_soft v_told_cellars v_ways v_told_weight v_told_folk v_told_kind v_told_mustBeAbove v_told_strength) sz)) (va_Qi (fun (v : Int32) (u : (Nat → Int32)) => post v u) (fun u t => va_P E.1 vwCl (w_X4_jacks E a_t a_text a_told a_reader a_tower a_kept a_isKept a_lifts a_seenAt a_seenInches a_ways a_trial a_told_kind a_told_weight a_told_strength a_told_height a_told_folk a_told_mustBeAbove a_told_wind v_liftsMany v_seenMany v_told_storeys v_told_pairs v_told_bears v_told_soft v_told_cellars u v_told_weight v_told_folk v_told_kind v_told_mustBeAbove v_told_strength) t.heap) (va_A (w_X4_jacks E a_t a_text a_told a_reader a_tower a_kept a_isKept a_lifts a_seenAt a_seenInches a_ways a_trial a_told_kind a_told_weight a_told_strength a_told_height a_told_folk a_told_mustBeAbove a_told_wind v_liftsMany v_seenMany v_told_storeys v_told_pairs v_told_bears v_told_soft v_told_cellars v_ways v_told_weight v_told_folk v_told_kind v_told_mustBeAbove v_told_strength) sz)) 0 0 (va_A (w_X4_jacks E a_t a_text a_told a_reader a_tower a_kept a_isKept a_lifts a_seenAt a_seenInches a_ways a_trial a_told_kind a_told_weight a_told_strength a_told_height a_told_folk a_told_mustBeAbove a_told_wind v_liftsMany v_seenMany v_told_storeys v_told_pairs v_told_bears v_told_soft v_told_cellars v_ways v_told_weight v_told_folk v_told_kind v_told_mustBeAbove v_told_strength) sz) :=
  mx_metWi (by decide) rfl rfl (fun hB hP hD hA hRet ls hl => b_X4_jacks E a_t a_text a_told a_reader a_tower a_kept a_isKept a_lifts a_seenAt a_seenInches a_ways a_trial a_told_kind a_told_weight a_told_strength a_told_height a_told_folk a_told_mustBeAbove a_told_wind v_liftsMany v_seenMany v_told_storeys v_told_pairs v_told_bears v_told_soft v_told_cellars v_ways v_told_weight v_told_folk v_told_kind v_told_mustBeAbove v_told_strength  post hB hP hD hA hRet hf ls hl)
def rm_X4_soonest : Room := { frames := 1, cells := 0, slots := 0, locals := 21 }
set_option maxHeartbeats 4000000 in
set_option maxRecDepth 100000 in
theorem b_X4_soonest {p : Program} {l : Launch} {e : Env} {s : State} {m : MethodId} {args : Array Value} {below : List Frame} {meth : Method} {c : Code} {Q : State → Prop} (E : mx_E) (a_t : Nat) (a_text : Nat) (a_told : Nat) (a_reader : Nat) (a_tower : Nat) (a_kept : Nat) (a_isKept : Nat) (a_lifts : Nat) (a_seenAt : Nat) (a_seenInches : Nat) (a_ways : Nat) (a_trial : Nat) (a_told_kind : Nat) (a_told_weight : Nat) (a_told_strength : Nat) (a_told_height : Nat) (a_told_folk : Nat) (a_told_mustBeAbove : Nat) (a_told_wind : Nat) (v_liftsMany : Int32) (v_seenMany : Int32) (v_told_storeys : Int32) (v_told_pairs : Int32) (v_told_bears : Int32) (v_told_soft : Int32) (v_told_cellars : Int32) (v_told_wind : (Nat → Int32)) (x1 : Int32) (post : Int32 → Prop) (hB : mx_B p m c cX4_soonest 4 s args RX4 E) (hP : va_P E.1 vwCl (w_X4_soonest E a_t a_text a_told a_reader a_tower a_kept a_isKept a_lifts a_seenAt a_seenInches a_ways a_trial a_told_kind a_told_weight a_told_strength a_told_height a_told_folk a_told_mustBeAbove a_told_wind v_liftsMany v_seenMany v_told_storeys v_told_pairs v_told_bears v_told_soft v_told_cellars v_told_wind) s.heap) (hRet : ∀ (v : Int32) (pc : Nat) (ls : Array Slot), decode cX4_soonest pc = .ok (.ireturn, 1) → post v → W p l e rm_X4_soonest s m args below meth c s.heap [] 0 0 Q (F0 m pc ls [.int v])) (hf : f_X4_soonest v_told_wind x1 post) (ls : Array Slot) (hl : lv_has ls 4 [(0, .ref a_t), (1, .int x1)]) : W p l e rm_X4_soonest s m args below meth c s.heap [] 0 0 Q (F0 m 0 ls []) := by
  have hx := hB.x
  have hb := hB.b
  have J_52 : ∀ (j52_x2 : Int32) (ls : Array Slot), f_X4_soonest_52 v_told_wind post j52_x2 → lv_has ls 4 [(2, .int j52_x2)] → W p l e rm_X4_soonest s m args below meth c s.heap [] 0 0 Q (F0 m 52 ls []) := by
    intro j52_x2 ls hf hl
    refine lv_bipush hx hb dX4_soonest_52 kc_b_40 ?_
    refine lv_iload_n hx hb dX4_soonest_54 rfl (lv_at hl 0 rfl) ?_
    refine lv_iadd hx hb dX4_soonest_55 ?_
    refine lv_iconst hx hb dX4_soonest_56 kc_i_1 ?_
    refine lv_isub hx hb dX4_soonest_57 ?_
    exact hRet ((40 + j52_x2) - 1) 58 ls dX4_soonest_58 hf
  have L_18 : ∀  (n : Nat) (j18_x2 : Int32) (j18_x3 : Int32) (ls : Array Slot), mx_l2 (f_X4_soonest_18 v_told_wind post) n j18_x2 j18_x3 → lv_has ls 4 [(0, .ref a_t), (2, .int j18_x2), (3, .int j18_x3)] → W p l e rm_X4_soonest s m args below meth c s.heap [] 0 0 Q (F0 m 18 ls []) := by
    intro  n_18
    induction n_18 with
    | zero =>
      intro j18_x2 j18_x3 ls hf hl
      exact False.elim hf
    | succ n_18 ih_18 =>
      have J_40 : ∀ (j40_x2 : Int32) (j40_x3 : Int32) (ls : Array Slot), f_X4_soonest_40 v_told_wind (mx_l2 (f_X4_soonest_18 v_told_wind post) n_18) post j40_x2 j40_x3 → lv_has ls 4 [(0, .ref a_t), (2, .int j40_x2), (3, .int j40_x3)] → W p l e rm_X4_soonest s m args below meth c s.heap [] 0 0 Q (F0 m 40 ls []) := by
        intro j40_x2 j40_x3 ls hf hl
        refine lv_iload_n hx hb dX4_soonest_40 rfl (lv_at hl 1 rfl) ?_
        refine lv_if_ne (tgt := 46) hx hb dX4_soonest_41 (by decide) (fun c41 => ?_) (fun c41 => ?_)
        · have hf := hf.1 c41
          refine lv_iinc (v := j40_x3 + 1) (lv' := [(3, .int (j40_x3 + 1)), (0, .ref a_t), (2, .int j40_x2)]) hx hb dX4_soonest_46 hl (k := 2) rfl (by rw [kc_i_1]) (by decide) rfl (fun ls hl => ?_)
          refine lv_goto (tgt := 18) hx hb dX4_soonest_49 (by decide) ?_
          exact ih_18 j40_x2 (j40_x3 + 1) ls hf (lv_sub hl [1, 2, 0] rfl)
        · have hf := hf.2 c41
          refine lv_iload_n hx hb dX4_soonest_44 rfl (lv_at hl 2 rfl) ?_
          exact hRet j40_x3 45 ls dX4_soonest_45 hf
      intro j18_x2 j18_x3 ls hf hl
      replace hf : f_X4_soonest_18 v_told_wind post (mx_l2 (f_X4_soonest_18 v_told_wind post) n_18) j18_x2 j18_x3 := hf
      refine lv_iload_n hx hb dX4_soonest_18 rfl (lv_at hl 2 rfl) ?_
      refine lv_bipush hx hb dX4_soonest_19 kc_b_40 ?_
      refine lv_icmp_ge (tgt := 52) hx hb dX4_soonest_21 (by decide) (fun c21 => ?_) (fun c21 => ?_)
      · have hf := hf.1 c21
        exact J_52 j18_x2 ls hf (lv_sub hl [1] rfl)
      · have hf := hf.2 c21
        refine lv_aload_n hx hb dX4_soonest_24 rfl (lv_at hl 0 rfl) ?_
        refine gf_X4_19 hB hP 0 rfl rfl dX4_soonest_25 ?_
        refine lv_iload_n hx hb dX4_soonest_28 rfl (lv_at hl 2 rfl) ?_
        refine mx_gi (mx_runN (As := [.int j18_x3]) (rest := []) hB (c_X1_windOf l E a_told a_told_kind a_told_weight a_told_strength a_told_height a_told_folk a_told_mustBeAbove a_told_wind v_told_storeys v_told_pairs v_told_bears v_told_soft v_told_cellars v_told_wind j18_x3 _ hf) sB_X1_windOf sV_X1_windOf wmn_X4_190 rfl (mx_ppV hB hP [1, 2] rfl 1 rfl rfl rfl) hl.1 rfl (Nat.le_of_ble_eq_true rfl) dX4_soonest_29 ⟨Nat.zero_le _, Nat.zero_le _⟩) (fun r1 hf => ?_)
        refine lv_bipush hx hb dX4_soonest_32 kc_b_9 ?_
        refine lv_icmp_eq (tgt := 40) hx hb dX4_soonest_34 (by decide) (fun c34 => ?_) (fun c34 => ?_)
        · have hf := hf.1 c34
          exact J_40 j18_x2 j18_x3 ls hf (lv_sub hl [0, 1, 2] rfl)
        · have hf := hf.2 c34
          refine lv_iinc (v := j18_x2 + (-1)) (lv' := [(2, .int (j18_x2 + (-1))), (0, .ref a_t), (3, .int j18_x3)]) hx hb dX4_soonest_37 hl (k := 1) rfl (by rw [kc_i_m1]) (by decide) rfl (fun ls hl => ?_)
          exact J_40 (j18_x2 + (-1)) j18_x3 ls hf (lv_sub hl [1, 0, 2] rfl)
  refine lv_iload_n hx hb dX4_soonest_0 rfl (lv_at hl 1 rfl) ?_
  refine lv_iconst hx hb dX4_soonest_1 kc_i_1 ?_
  refine lv_icmp_lt (tgt := 11) hx hb dX4_soonest_2 (by decide) (fun c2 => ?_) (fun c2 => ?_)
  · have hf := hf.1 c2
    refine lv_bipush hx hb dX4_soonest_11 kc_b_m3 ?_
    exact hRet (-3) 13 ls dX4_soonest_13 hf
  · have hf := hf.2 c2
    refine lv_iload_n hx hb dX4_soonest_5 rfl (lv_at hl 1 rfl) ?_
    refine lv_bipush hx hb dX4_soonest_6 kc_b_8 ?_
    refine lv_icmp_le (tgt := 14) hx hb dX4_soonest_8 (by decide) (fun c8 => ?_) (fun c8 => ?_)
    · have hf := hf.1 c8
      refine lv_iload_n hx hb dX4_soonest_14 rfl (lv_at hl 1 rfl) ?_
      refine lv_istore_n (lv' := [(2, .int x1), (0, .ref a_t), (1, .int x1)]) hx hb dX4_soonest_15 rfl hl (by decide) rfl (fun ls hl => ?_)
      refine lv_iconst hx hb dX4_soonest_16 kc_i_0 ?_
      refine lv_istore_n (lv' := [(3, .int 0), (2, .int x1), (0, .ref a_t), (1, .int x1)]) hx hb dX4_soonest_17 rfl hl (by decide) rfl (fun ls hl => ?_)
      obtain ⟨n9, hf⟩ := hf
      exact L_18  n9 x1 0 ls hf (lv_sub hl [2, 1, 0] rfl)
    · have hf := hf.2 c8
      refine lv_bipush hx hb dX4_soonest_11 kc_b_m3 ?_
      exact hRet (-3) 13 ls dX4_soonest_13 hf
theorem c_X4_soonest (l : Launch) (E : mx_E) (a_t : Nat) (a_text : Nat) (a_told : Nat) (a_reader : Nat) (a_tower : Nat) (a_kept : Nat) (a_isKept : Nat) (a_lifts : Nat) (a_seenAt : Nat) (a_seenInches : Nat) (a_ways : Nat) (a_trial : Nat) (a_told_kind : Nat) (a_told_weight : Nat) (a_told_strength : Nat) (a_told_height : Nat) (a_told_folk : Nat) (a_told_mustBeAbove : Nat) (a_told_wind : Nat) (v_liftsMany : Int32) (v_seenMany : Int32) (v_told_storeys : Int32) (v_told_pairs : Int32) (v_told_bears : Int32) (v_told_soft : Int32) (v_told_cellars : Int32) (v_told_wind : (Nat → Int32)) (x1 : Int32) (post : Int32 → Prop) (hf : f_X4_soonest v_told_wind x1 post) : Met l yX4_soonest (Cond.code yX4_soonest cX4_soonest 4 (some .int) :: mx_WS) rm_X4_soonest (va_Pc [.ref a_t, .int x1] (mx_Pp E (w_X4_soonest E a_t a_text a_told a_reader a_tower a_kept a_isKept a_lifts a_seenAt a_seenInches a_ways a_trial a_told_kind a_told_weight a_told_strength a_told_height a_told_folk a_told_mustBeAbove a_told_wind v_liftsMany v_seenMany v_told_storeys v_told_pairs v_told_bears v_told_soft v_told_cellars v_told_wind))) (vp_Si post) 0 0 (fun _ => False) :=
  mx_metPi (by decide) rfl rfl (fun hB hP hRet ls hl => b_X4_soonest E a_t a_text a_told a_reader a_tower a_kept a_isKept a_lifts a_seenAt a_seenInches a_ways a_trial a_told_kind a_told_weight a_told_strength a_told_height a_told_folk a_told_mustBeAbove a_told_wind v_liftsMany v_seenMany v_told_storeys v_told_pairs v_told_bears v_told_soft v_told_cellars v_told_wind x1 post hB hP hRet hf ls hl)
def rm_X4_power : Room := { frames := 0, cells := 0, slots := 0, locals := 0 }
set_option maxHeartbeats 4000000 in
set_option maxRecDepth 100000 in
theorem b_X4_power {p : Program} {l : Launch} {e : Env} {s : State} {m : MethodId} {args : Array Value} {below : List Frame} {meth : Method} {c : Code} {Q : State → Prop} (E : mx_E)   (x0 : Int32) (x1 : Int32) (post : Int64 → Prop) (hB : mx_B p m c cX4_power 5 s args RX4 E) (hP : va_P E.1 vwCl (w_X4_power E ) s.heap) (hRet : ∀ (v : Int64) (pc : Nat) (ls : Array Slot), decode cX4_power pc = .ok (.lreturn, 1) → post v → W p l e rm_X4_power s m args below meth c s.heap [] 0 0 Q (F0 m pc ls [.long v])) (hf : f_X4_power x0 x1 post) (ls : Array Slot) (hl : lv_has ls 5 [(0, .int x0), (1, .int x1)]) : W p l e rm_X4_power s m args below meth c s.heap [] 0 0 Q (F0 m 0 ls []) := by
  have hx := hB.x
  have hb := hB.b
  have L_5 : ∀ (g5_x0 : Int32) (g5_x1 : Int32) (n : Nat) (j5_y2 : Int64) (j5_x4 : Int32) (ls : Array Slot), mx_l2 (f_X4_power_5 post g5_x0 g5_x1) n j5_y2 j5_x4 → lv_has ls 5 [(0, .int g5_x0), (1, .int g5_x1), (2, .long j5_y2), (4, .int j5_x4)] → W p l e rm_X4_power s m args below meth c s.heap [] 0 0 Q (F0 m 5 ls []) := by
    intro g5_x0 g5_x1 n_5
    induction n_5 with
    | zero =>
      intro j5_y2 j5_x4 ls hf hl
      exact False.elim hf
    | succ n_5 ih_5 =>
      intro j5_y2 j5_x4 ls hf hl
      replace hf : f_X4_power_5 post g5_x0 g5_x1 (mx_l2 (f_X4_power_5 post g5_x0 g5_x1) n_5) j5_y2 j5_x4 := hf
      refine lv_iload hx hb dX4_power_5 (lv_at hl 3 rfl) ?_
      refine lv_iload_n hx hb dX4_power_7 rfl (lv_at hl 1 rfl) ?_
      refine lv_icmp_ge (tgt := 22) hx hb dX4_power_8 (by decide) (fun c8 => ?_) (fun c8 => ?_)
      · have hf := hf.1 c8
        refine lv_lload_n hx hb dX4_power_22 rfl (lv_at hl 2 rfl) ?_
        exact hRet j5_y2 23 ls dX4_power_23 hf
      · have hf := hf.2 c8
        refine lv_lload_n hx hb dX4_power_11 rfl (lv_at hl 2 rfl) ?_
        refine lv_iload_n hx hb dX4_power_12 rfl (lv_at hl 0 rfl) ?_
        refine lv_i2l hx hb dX4_power_13 rfl ?_
        refine lv_lmul hx hb dX4_power_14 ?_
        refine lv_lstore_n (lv' := [(2, .long (j5_y2 * g5_x0.toInt64)), (0, .int g5_x0), (1, .int g5_x1), (4, .int j5_x4)]) hx hb dX4_power_15 rfl hl (by decide) rfl (fun ls hl => ?_)
        refine lv_iinc (v := j5_x4 + 1) (lv' := [(4, .int (j5_x4 + 1)), (2, .long (j5_y2 * g5_x0.toInt64)), (0, .int g5_x0), (1, .int g5_x1)]) hx hb dX4_power_16 hl (k := 3) rfl (by rw [kc_i_1]) (by decide) rfl (fun ls hl => ?_)
        refine lv_goto (tgt := 5) hx hb dX4_power_19 (by decide) ?_
        exact ih_5 (j5_y2 * g5_x0.toInt64) (j5_x4 + 1) ls hf (lv_sub hl [2, 3, 1, 0] rfl)
  refine lv_lconst hx hb dX4_power_0 kc_l_1 ?_
  refine lv_lstore_n (lv' := [(2, .long 1), (0, .int x0), (1, .int x1)]) hx hb dX4_power_1 rfl hl (by decide) rfl (fun ls hl => ?_)
  refine lv_iconst hx hb dX4_power_2 kc_i_0 ?_
  refine lv_istore (lv' := [(4, .int 0), (2, .long 1), (0, .int x0), (1, .int x1)]) hx hb dX4_power_3 hl (by decide) rfl (fun ls hl => ?_)
  obtain ⟨n9, hf⟩ := hf
  exact L_5 x0 x1 n9 1 0 ls hf (lv_sub hl [2, 3, 1, 0] rfl)
theorem c_X4_power (l : Launch) (E : mx_E)   (x0 : Int32) (x1 : Int32) (post : Int64 → Prop) (hf : f_X4_power x0 x1 post) : Met l yX4_power (Cond.code yX4_power cX4_power 5 (some .long) :: mx_WS) rm_X4_power (va_Pc [.int x0, .int x1] (mx_Pp E (w_X4_power E ))) (vp_Sl post) 0 0 (fun _ => False) :=
  mx_metPl (by decide) rfl rfl (fun hB hP hRet ls hl => b_X4_power E  x0 x1 post hB hP hRet hf ls hl)
def rm_X4_sharedDivisor : Room := { frames := 0, cells := 0, slots := 0, locals := 0 }
set_option maxHeartbeats 4000000 in
set_option maxRecDepth 100000 in
theorem b_X4_sharedDivisor {p : Program} {l : Launch} {e : Env} {s : State} {m : MethodId} {args : Array Value} {below : List Frame} {meth : Method} {c : Code} {Q : State → Prop} (E : mx_E)   (y0 : Int64) (y2 : Int64) (post : Int64 → Prop) (hB : mx_B p m c cX4_sharedDivisor 11 s args RX4 E) (hP : va_P E.1 vwCl (w_X4_sharedDivisor E ) s.heap) (hRet : ∀ (v : Int64) (pc : Nat) (ls : Array Slot), decode cX4_sharedDivisor pc = .ok (.lreturn, 1) → post v → W p l e rm_X4_sharedDivisor s m args below meth c s.heap [] 0 0 Q (F0 m pc ls [.long v])) (hf : f_X4_sharedDivisor y0 y2 post) (ls : Array Slot) (hl : lv_has ls 11 [(0, .long y0), (2, .long y2)]) : W p l e rm_X4_sharedDivisor s m args below meth c s.heap [] 0 0 Q (F0 m 0 ls []) := by
  have hx := hB.x
  have hb := hB.b
  have L_9 : ∀  (n : Nat) (j9_y4 : Int64) (j9_y6 : Int64) (j9_x8 : Int32) (ls : Array Slot), mx_l3 (f_X4_sharedDivisor_9 post) n j9_y4 j9_y6 j9_x8 → lv_has ls 11 [(4, .long j9_y4), (6, .long j9_y6), (8, .int j9_x8)] → W p l e rm_X4_sharedDivisor s m args below meth c s.heap [] 0 0 Q (F0 m 9 ls []) := by
    intro  n_9
    induction n_9 with
    | zero =>
      intro j9_y4 j9_y6 j9_x8 ls hf hl
      exact False.elim hf
    | succ n_9 ih_9 =>
      intro j9_y4 j9_y6 j9_x8 ls hf hl
      replace hf : f_X4_sharedDivisor_9 post (mx_l3 (f_X4_sharedDivisor_9 post) n_9) j9_y4 j9_y6 j9_x8 := hf
      refine lv_iload hx hb dX4_sharedDivisor_9 (lv_at hl 2 rfl) ?_
      refine lv_sipush hx hb dX4_sharedDivisor_11 kc_s_200 ?_
      refine lv_icmp_ge (tgt := 45) hx hb dX4_sharedDivisor_14 (by decide) (fun c14 => ?_) (fun c14 => ?_)
      · have hf := hf.1 c14
        refine lv_lload hx hb dX4_sharedDivisor_45 (lv_at hl 0 rfl) ?_
        exact hRet j9_y4 47 ls dX4_sharedDivisor_47 hf
      · have hf := hf.2 c14
        refine lv_lload hx hb dX4_sharedDivisor_17 (lv_at hl 1 rfl) ?_
        refine lv_lconst hx hb dX4_sharedDivisor_19 kc_l_0 ?_
        refine W.lcmp hx hb dX4_sharedDivisor_20 ?_
        refine lv_if_eq (tgt := 45) hx hb dX4_sharedDivisor_21 (by decide) (fun c21 => ?_) (fun c21 => ?_)
        · have hf := hf.1 c21
          refine lv_lload hx hb dX4_sharedDivisor_45 (lv_at hl 0 rfl) ?_
          exact hRet j9_y4 47 ls dX4_sharedDivisor_47 hf
        · have hf := hf.2 c21
          refine lv_lload hx hb dX4_sharedDivisor_24 (lv_at hl 0 rfl) ?_
          refine lv_lload hx hb dX4_sharedDivisor_26 (lv_at hl 1 rfl) ?_
          obtain ⟨h_nz, hf⟩ := hf
          refine lv_lrem hx hb dX4_sharedDivisor_28 h_nz ?_
          refine lv_lstore (lv' := [(9, .long (j9_y4 - j9_y4 / j9_y6 * j9_y6)), (4, .long j9_y4), (6, .long j9_y6), (8, .int j9_x8)]) hx hb dX4_sharedDivisor_29 hl (by decide) rfl (fun ls hl => ?_)
          refine lv_lload hx hb dX4_sharedDivisor_31 (lv_at hl 2 rfl) ?_
          refine lv_lstore (lv' := [(4, .long j9_y6), (9, .long (j9_y4 - j9_y4 / j9_y6 * j9_y6)), (6, .long j9_y6), (8, .int j9_x8)]) hx hb dX4_sharedDivisor_33 hl (by decide) rfl (fun ls hl => ?_)
          refine lv_lload hx hb dX4_sharedDivisor_35 (lv_at hl 1 rfl) ?_
          refine lv_lstore (lv' := [(6, .long (j9_y4 - j9_y4 / j9_y6 * j9_y6)), (4, .long j9_y6), (9, .long (j9_y4 - j9_y4 / j9_y6 * j9_y6)), (8, .int j9_x8)]) hx hb dX4_sharedDivisor_37 hl (by decide) rfl (fun ls hl => ?_)
          refine lv_iinc (v := j9_x8 + 1) (lv' := [(8, .int (j9_x8 + 1)), (6, .long (j9_y4 - j9_y4 / j9_y6 * j9_y6)), (4, .long j9_y6), (9, .long (j9_y4 - j9_y4 / j9_y6 * j9_y6))]) hx hb dX4_sharedDivisor_39 hl (k := 3) rfl (by rw [kc_i_1]) (by decide) rfl (fun ls hl => ?_)
          refine lv_goto (tgt := 9) hx hb dX4_sharedDivisor_42 (by decide) ?_
          exact ih_9 j9_y6 (j9_y4 - j9_y4 / j9_y6 * j9_y6) (j9_x8 + 1) ls hf (lv_sub hl [2, 1, 0] rfl)
  refine lv_lload_n hx hb dX4_sharedDivisor_0 rfl (lv_at hl 0 rfl) ?_
  refine lv_lstore (lv' := [(4, .long y0), (0, .long y0), (2, .long y2)]) hx hb dX4_sharedDivisor_1 hl (by decide) rfl (fun ls hl => ?_)
  refine lv_lload_n hx hb dX4_sharedDivisor_3 rfl (lv_at hl 2 rfl) ?_
  refine lv_lstore (lv' := [(6, .long y2), (4, .long y0), (0, .long y0), (2, .long y2)]) hx hb dX4_sharedDivisor_4 hl (by decide) rfl (fun ls hl => ?_)
  refine lv_iconst hx hb dX4_sharedDivisor_6 kc_i_0 ?_
  refine lv_istore (lv' := [(8, .int 0), (6, .long y2), (4, .long y0), (0, .long y0), (2, .long y2)]) hx hb dX4_sharedDivisor_7 hl (by decide) rfl (fun ls hl => ?_)
  obtain ⟨n9, hf⟩ := hf
  exact L_9  n9 y0 y2 0 ls hf (lv_sub hl [2, 1, 0] rfl)
theorem c_X4_sharedDivisor (l : Launch) (E : mx_E)   (y0 : Int64) (y2 : Int64) (post : Int64 → Prop) (hf : f_X4_sharedDivisor y0 y2 post) : Met l yX4_sharedDivisor (Cond.code yX4_sharedDivisor cX4_sharedDivisor 11 (some .long) :: mx_WS) rm_X4_sharedDivisor (va_Pc [.long y0, .long y2] (mx_Pp E (w_X4_sharedDivisor E ))) (vp_Sl post) 0 0 (fun _ => False) :=
  mx_metPl (by decide) rfl rfl (fun hB hP hRet ls hl => b_X4_sharedDivisor E  y0 y2 post hB hP hRet hf ls hl)
def rm_X4_odds : Room := { frames := 1, cells := 0, slots := 0, locals := 30 }
set_option maxHeartbeats 4000000 in
set_option maxRecDepth 100000 in
theorem b_X4_odds {p : Program} {l : Launch} {e : Env} {s : State} {m : MethodId} {args : Array Value} {below : List Frame} {meth : Method} {c : Code} {Q : State → Prop} (E : mx_E) (a_t : Nat) (a_text : Nat) (a_told : Nat) (a_reader : Nat) (a_tower : Nat) (a_kept : Nat) (a_isKept : Nat) (a_lifts : Nat) (a_seenAt : Nat) (a_seenInches : Nat) (a_ways : Nat) (a_trial : Nat) (v_liftsMany : Int32) (v_seenMany : Int32) (x1 : Int32) (x2 : Int32) (x3 : Int32) (x4 : Int32) (post : Int64 → Prop) (hB : mx_B p m c cX4_odds 13 s args RX4 E) (hP : va_P E.1 vwCl (w_X4_odds E a_t a_text a_told a_reader a_tower a_kept a_isKept a_lifts a_seenAt a_seenInches a_ways a_trial v_liftsMany v_seenMany) s.heap) (hRet : ∀ (v : Int64) (pc : Nat) (ls : Array Slot), decode cX4_odds pc = .ok (.lreturn, 1) → post v → W p l e rm_X4_odds s m args below meth c s.heap [] 0 0 Q (F0 m pc ls [.long v])) (hf : f_X4_odds x1 x2 x3 x4 post) (ls : Array Slot) (hl : lv_has ls 13 [(0, .ref a_t), (1, .int x1), (2, .int x2), (3, .int x3), (4, .int x4)]) : W p l e rm_X4_odds s m args below meth c s.heap [] 0 0 Q (F0 m 0 ls []) := by
  have hx := hB.x
  have hb := hB.b
  have J_118 : ∀ (j118_x1 : Int32) (j118_x4 : Int32) (j118_y5 : Int64) (ls : Array Slot), f_X4_odds_118 post j118_x1 j118_x4 j118_y5 → lv_has ls 13 [(1, .int j118_x1), (4, .int j118_x4), (5, .long j118_y5)] → W p l e rm_X4_odds s m args below meth c s.heap [] 0 0 Q (F0 m 118 ls []) := by
    intro j118_x1 j118_x4 j118_y5 ls hf hl
    refine lv_bipush hx hb dX4_odds_118 kc_b_10 ?_
    refine lv_iload_n hx hb dX4_odds_120 rfl (lv_at hl 0 rfl) ?_
    refine mx_gl (mx_runS (As := [.int 10, .int j118_x1]) (rest := []) hB (c_X4_power l E 10 j118_x1 _ hf) sB_X4_power wst_X4_power wml_X4_195 rfl (mx_pp hB hP [] rfl) hl.1 rfl (Nat.le_of_ble_eq_true rfl) dX4_odds_121 ⟨Nat.zero_le _, Nat.zero_le _⟩) (fun r1 hf => ?_)
    refine lv_lstore (lv' := [(9, .long r1), (1, .int j118_x1), (4, .int j118_x4), (5, .long j118_y5)]) hx hb dX4_odds_124 hl (by decide) rfl (fun ls hl => ?_)
    refine lv_lload hx hb dX4_odds_126 (lv_at hl 3 rfl) ?_
    refine lv_lload hx hb dX4_odds_128 (lv_at hl 0 rfl) ?_
    refine mx_gl (mx_runS (As := [.long j118_y5, .long r1]) (rest := []) hB (c_X4_sharedDivisor l E j118_y5 r1 _ hf) sB_X4_sharedDivisor wst_X4_sharedDivisor wml_X4_199 rfl (mx_pp hB hP [] rfl) hl.1 rfl (Nat.le_of_ble_eq_true rfl) dX4_odds_130 ⟨Nat.zero_le _, Nat.zero_le _⟩) (fun r2 hf => ?_)
    refine lv_lstore (lv' := [(11, .long r2), (9, .long r1), (1, .int j118_x1), (4, .int j118_x4), (5, .long j118_y5)]) hx hb dX4_odds_133 hl (by decide) rfl (fun ls hl => ?_)
    refine lv_lload hx hb dX4_odds_135 (lv_at hl 0 rfl) ?_
    refine lv_lconst hx hb dX4_odds_137 kc_l_1 ?_
    refine W.lcmp hx hb dX4_odds_138 ?_
    refine lv_if_ge (tgt := 146) hx hb dX4_odds_139 (by decide) (fun c139 => ?_) (fun c139 => ?_)
    · have hf := hf.1 c139
      refine lv_iload hx hb dX4_odds_146 (lv_at hl 3 rfl) ?_
      refine lv_if_ne (tgt := 159) hx hb dX4_odds_148 (by decide) (fun c148 => ?_) (fun c148 => ?_)
      · have hf := hf.1 c148
        refine lv_lload hx hb dX4_odds_159 (lv_at hl 1 rfl) ?_
        refine lv_lload hx hb dX4_odds_161 (lv_at hl 0 rfl) ?_
        obtain ⟨h_nz, hf⟩ := hf
        refine lv_ldiv hx hb dX4_odds_163 h_nz ?_
        exact hRet (r1 / r2) 164 ls dX4_odds_164 hf
      · have hf := hf.2 c148
        refine lv_lload hx hb dX4_odds_151 (lv_at hl 4 rfl) ?_
        refine lv_lload hx hb dX4_odds_153 (lv_at hl 0 rfl) ?_
        obtain ⟨h_nz, hf⟩ := hf
        refine lv_ldiv hx hb dX4_odds_155 h_nz ?_
        refine lv_goto (tgt := 164) hx hb dX4_odds_156 (by decide) ?_
        exact hRet (j118_y5 / r2) 164 ls dX4_odds_164 hf
    · have hf := hf.2 c139
      refine lv_ldc2 hx hb hB.o (hB.w wcl_X4_193) dX4_odds_142 ?_
      exact hRet (-3) 145 ls dX4_odds_145 hf
  have L_58 : ∀ (g58_x1 : Int32) (g58_x2 : Int32) (g58_x3 : Int32) (g58_x4 : Int32) (n : Nat) (j58_y5 : Int64) (j58_y7 : Int64) (j58_x9 : Int32) (ls : Array Slot), mx_l3 (f_X4_odds_58 post g58_x1 g58_x2 g58_x3 g58_x4) n j58_y5 j58_y7 j58_x9 → lv_has ls 13 [(1, .int g58_x1), (2, .int g58_x2), (3, .int g58_x3), (4, .int g58_x4), (5, .long j58_y5), (7, .long j58_y7), (9, .int j58_x9)] → W p l e rm_X4_odds s m args below meth c s.heap [] 0 0 Q (F0 m 58 ls []) := by
    intro g58_x1 g58_x2 g58_x3 g58_x4 n_58
    induction n_58 with
    | zero =>
      intro j58_y5 j58_y7 j58_x9 ls hf hl
      exact False.elim hf
    | succ n_58 ih_58 =>
      have J_96 : ∀ (j96_y5 : Int64) (j96_y7 : Int64) (j96_x9 : Int32) (ls : Array Slot), f_X4_odds_96 (mx_l3 (f_X4_odds_58 post g58_x1 g58_x2 g58_x3 g58_x4) n_58) post g58_x1 g58_x2 g58_x3 g58_x4 j96_y5 j96_y7 j96_x9 → lv_has ls 13 [(1, .int g58_x1), (2, .int g58_x2), (3, .int g58_x3), (4, .int g58_x4), (5, .long j96_y5), (7, .long j96_y7), (9, .int j96_x9)] → W p l e rm_X4_odds s m args below meth c s.heap [] 0 0 Q (F0 m 96 ls []) := by
        intro j96_y5 j96_y7 j96_x9 ls hf hl
        refine lv_lload hx hb dX4_odds_96 (lv_at hl 5 rfl) ?_
        refine lv_iload_n hx hb dX4_odds_98 rfl (lv_at hl 0 rfl) ?_
        refine lv_iload hx hb dX4_odds_99 (lv_at hl 6 rfl) ?_
        refine lv_isub hx hb dX4_odds_101 ?_
        refine lv_i2l hx hb dX4_odds_102 rfl ?_
        refine lv_lmul hx hb dX4_odds_103 ?_
        refine lv_iload hx hb dX4_odds_104 (lv_at hl 6 rfl) ?_
        refine lv_iconst hx hb dX4_odds_106 kc_i_1 ?_
        refine lv_iadd hx hb dX4_odds_107 ?_
        refine lv_i2l hx hb dX4_odds_108 rfl ?_
        obtain ⟨h_nz, hf⟩ := hf
        refine lv_ldiv hx hb dX4_odds_109 h_nz ?_
        refine lv_lstore (lv' := [(7, .long ((j96_y7 * ((g58_x1 - j96_x9).toInt64)) / ((j96_x9 + 1).toInt64))), (1, .int g58_x1), (2, .int g58_x2), (3, .int g58_x3), (4, .int g58_x4), (5, .long j96_y5), (9, .int j96_x9)]) hx hb dX4_odds_110 hl (by decide) rfl (fun ls hl => ?_)
        refine lv_iinc (v := j96_x9 + 1) (lv' := [(9, .int (j96_x9 + 1)), (7, .long ((j96_y7 * ((g58_x1 - j96_x9).toInt64)) / ((j96_x9 + 1).toInt64))), (1, .int g58_x1), (2, .int g58_x2), (3, .int g58_x3), (4, .int g58_x4), (5, .long j96_y5)]) hx hb dX4_odds_112 hl (k := 6) rfl (by rw [kc_i_1]) (by decide) rfl (fun ls hl => ?_)
        refine lv_goto (tgt := 58) hx hb dX4_odds_115 (by decide) ?_
        exact ih_58 j96_y5 ((j96_y7 * ((g58_x1 - j96_x9).toInt64)) / ((j96_x9 + 1).toInt64)) (j96_x9 + 1) ls hf (lv_sub hl [2, 3, 4, 5, 6, 1, 0] rfl)
      intro j58_y5 j58_y7 j58_x9 ls hf hl
      replace hf : f_X4_odds_58 post g58_x1 g58_x2 g58_x3 g58_x4 (mx_l3 (f_X4_odds_58 post g58_x1 g58_x2 g58_x3 g58_x4) n_58) j58_y5 j58_y7 j58_x9 := hf
      refine lv_iload hx hb dX4_odds_58 (lv_at hl 6 rfl) ?_
      refine lv_iload_n hx hb dX4_odds_60 rfl (lv_at hl 0 rfl) ?_
      refine lv_icmp_gt (tgt := 118) hx hb dX4_odds_61 (by decide) (fun c61 => ?_) (fun c61 => ?_)
      · have hf := hf.1 c61
        exact J_118 g58_x1 g58_x4 j58_y5 ls hf (lv_sub hl [0, 3, 4] rfl)
      · have hf := hf.2 c61
        refine lv_iload hx hb dX4_odds_64 (lv_at hl 6 rfl) ?_
        refine lv_iload_n hx hb dX4_odds_66 rfl (lv_at hl 1 rfl) ?_
        refine lv_icmp_lt (tgt := 96) hx hb dX4_odds_67 (by decide) (fun c67 => ?_) (fun c67 => ?_)
        · have hf := hf.1 c67
          exact J_96 j58_y5 j58_y7 j58_x9 ls hf (lv_sub hl [0, 1, 2, 3, 4, 5, 6] rfl)
        · have hf := hf.2 c67
          refine lv_lload hx hb dX4_odds_70 (lv_at hl 4 rfl) ?_
          refine lv_lload hx hb dX4_odds_72 (lv_at hl 5 rfl) ?_
          refine lv_bipush hx hb dX4_odds_74 kc_b_10 ?_
          refine lv_iload_n hx hb dX4_odds_76 rfl (lv_at hl 2 rfl) ?_
          refine lv_isub hx hb dX4_odds_77 ?_
          refine lv_iload hx hb dX4_odds_78 (lv_at hl 6 rfl) ?_
          refine mx_gl (mx_runS (As := [.int (10 - g58_x3), .int j58_x9]) (rest := [.long j58_y7, .long j58_y5]) hB (c_X4_power l E (10 - g58_x3) j58_x9 _ hf) sB_X4_power wst_X4_power wml_X4_195 rfl (mx_pp hB hP [] rfl) hl.1 rfl (Nat.le_of_ble_eq_true rfl) dX4_odds_80 ⟨Nat.zero_le _, Nat.zero_le _⟩) (fun r1 hf => ?_)
          refine lv_lmul hx hb dX4_odds_83 ?_
          refine lv_iload_n hx hb dX4_odds_84 rfl (lv_at hl 2 rfl) ?_
          refine lv_iload_n hx hb dX4_odds_85 rfl (lv_at hl 0 rfl) ?_
          refine lv_iload hx hb dX4_odds_86 (lv_at hl 6 rfl) ?_
          refine lv_isub hx hb dX4_odds_88 ?_
          refine mx_gl (mx_runS (As := [.int g58_x3, .int (g58_x1 - j58_x9)]) (rest := [.long (j58_y7 * r1), .long j58_y5]) hB (c_X4_power l E g58_x3 (g58_x1 - j58_x9) _ hf) sB_X4_power wst_X4_power wml_X4_195 rfl (mx_pp hB hP [] rfl) hl.1 rfl (Nat.le_of_ble_eq_true rfl) dX4_odds_89 ⟨Nat.zero_le _, Nat.zero_le _⟩) (fun r2 hf => ?_)
          refine lv_lmul hx hb dX4_odds_92 ?_
          refine lv_ladd hx hb dX4_odds_93 ?_
          refine lv_lstore (lv' := [(5, .long (j58_y5 + ((j58_y7 * r1) * r2))), (1, .int g58_x1), (2, .int g58_x2), (3, .int g58_x3), (4, .int g58_x4), (7, .long j58_y7), (9, .int j58_x9)]) hx hb dX4_odds_94 hl (by decide) rfl (fun ls hl => ?_)
          exact J_96 (j58_y5 + ((j58_y7 * r1) * r2)) j58_y7 j58_x9 ls hf (lv_sub hl [1, 2, 3, 4, 0, 5, 6] rfl)
  have J_45 : ∀  (ls : Array Slot), f_X4_odds_45 post → lv_has ls 13 [] → W p l e rm_X4_odds s m args below meth c s.heap [] 0 0 Q (F0 m 45 ls []) := by
    intro  ls hf hl
    refine lv_ldc2 hx hb hB.o (hB.w wcl_X4_193) dX4_odds_45 ?_
    exact hRet (-3) 48 ls dX4_odds_48 hf
  have J_20 : ∀  (ls : Array Slot), f_X4_odds_20 post → lv_has ls 13 [] → W p l e rm_X4_odds s m args below meth c s.heap [] 0 0 Q (F0 m 20 ls []) := by
    intro  ls hf hl
    refine lv_ldc2 hx hb hB.o (hB.w wcl_X4_193) dX4_odds_20 ?_
    exact hRet (-3) 23 ls dX4_odds_23 hf
  refine lv_iload_n hx hb dX4_odds_0 rfl (lv_at hl 1 rfl) ?_
  refine lv_if_lt (tgt := 20) hx hb dX4_odds_1 (by decide) (fun c1 => ?_) (fun c1 => ?_)
  · have hf := hf.1 c1
    exact J_20  ls hf (lv_sub hl [] rfl)
  · have hf := hf.2 c1
    refine lv_iload_n hx hb dX4_odds_4 rfl (lv_at hl 1 rfl) ?_
    refine lv_bipush hx hb dX4_odds_5 kc_b_18 ?_
    refine lv_icmp_gt (tgt := 20) hx hb dX4_odds_7 (by decide) (fun c7 => ?_) (fun c7 => ?_)
    · have hf := hf.1 c7
      exact J_20  ls hf (lv_sub hl [] rfl)
    · have hf := hf.2 c7
      refine lv_iload_n hx hb dX4_odds_10 rfl (lv_at hl 2 rfl) ?_
      refine lv_if_lt (tgt := 20) hx hb dX4_odds_11 (by decide) (fun c11 => ?_) (fun c11 => ?_)
      · have hf := hf.1 c11
        exact J_20  ls hf (lv_sub hl [] rfl)
      · have hf := hf.2 c11
        refine lv_iload_n hx hb dX4_odds_14 rfl (lv_at hl 2 rfl) ?_
        refine lv_bipush hx hb dX4_odds_15 kc_b_18 ?_
        refine lv_icmp_le (tgt := 24) hx hb dX4_odds_17 (by decide) (fun c17 => ?_) (fun c17 => ?_)
        · have hf := hf.1 c17
          refine lv_iload_n hx hb dX4_odds_24 rfl (lv_at hl 3 rfl) ?_
          refine lv_if_lt (tgt := 45) hx hb dX4_odds_25 (by decide) (fun c25 => ?_) (fun c25 => ?_)
          · have hf := hf.1 c25
            exact J_45  ls hf (lv_sub hl [] rfl)
          · have hf := hf.2 c25
            refine lv_iload_n hx hb dX4_odds_28 rfl (lv_at hl 3 rfl) ?_
            refine lv_bipush hx hb dX4_odds_29 kc_b_10 ?_
            refine lv_icmp_gt (tgt := 45) hx hb dX4_odds_31 (by decide) (fun c31 => ?_) (fun c31 => ?_)
            · have hf := hf.1 c31
              exact J_45  ls hf (lv_sub hl [] rfl)
            · have hf := hf.2 c31
              refine lv_iload hx hb dX4_odds_34 (lv_at hl 4 rfl) ?_
              refine lv_if_lt (tgt := 45) hx hb dX4_odds_36 (by decide) (fun c36 => ?_) (fun c36 => ?_)
              · have hf := hf.1 c36
                exact J_45  ls hf (lv_sub hl [] rfl)
              · have hf := hf.2 c36
                refine lv_iload hx hb dX4_odds_39 (lv_at hl 4 rfl) ?_
                refine lv_iconst hx hb dX4_odds_41 kc_i_1 ?_
                refine lv_icmp_le (tgt := 49) hx hb dX4_odds_42 (by decide) (fun c42 => ?_) (fun c42 => ?_)
                · have hf := hf.1 c42
                  refine lv_lconst hx hb dX4_odds_49 kc_l_0 ?_
                  refine lv_lstore (lv' := [(5, .long 0), (0, .ref a_t), (1, .int x1), (2, .int x2), (3, .int x3), (4, .int x4)]) hx hb dX4_odds_50 hl (by decide) rfl (fun ls hl => ?_)
                  refine lv_lconst hx hb dX4_odds_52 kc_l_1 ?_
                  refine lv_lstore (lv' := [(7, .long 1), (5, .long 0), (0, .ref a_t), (1, .int x1), (2, .int x2), (3, .int x3), (4, .int x4)]) hx hb dX4_odds_53 hl (by decide) rfl (fun ls hl => ?_)
                  refine lv_iconst hx hb dX4_odds_55 kc_i_0 ?_
                  refine lv_istore (lv' := [(9, .int 0), (7, .long 1), (5, .long 0), (0, .ref a_t), (1, .int x1), (2, .int x2), (3, .int x3), (4, .int x4)]) hx hb dX4_odds_56 hl (by decide) rfl (fun ls hl => ?_)
                  obtain ⟨n9, hf⟩ := hf
                  exact L_58 x1 x2 x3 x4 n9 0 1 0 ls hf (lv_sub hl [4, 5, 6, 7, 2, 1, 0] rfl)
                · have hf := hf.2 c42
                  exact J_45  ls hf (lv_sub hl [] rfl)
        · have hf := hf.2 c17
          exact J_20  ls hf (lv_sub hl [] rfl)
theorem c_X4_odds (l : Launch) (E : mx_E) (a_t : Nat) (a_text : Nat) (a_told : Nat) (a_reader : Nat) (a_tower : Nat) (a_kept : Nat) (a_isKept : Nat) (a_lifts : Nat) (a_seenAt : Nat) (a_seenInches : Nat) (a_ways : Nat) (a_trial : Nat) (v_liftsMany : Int32) (v_seenMany : Int32) (x1 : Int32) (x2 : Int32) (x3 : Int32) (x4 : Int32) (post : Int64 → Prop) (hf : f_X4_odds x1 x2 x3 x4 post) : Met l yX4_odds (Cond.code yX4_odds cX4_odds 13 (some .long) :: mx_WS) rm_X4_odds (va_Pc [.ref a_t, .int x1, .int x2, .int x3, .int x4] (mx_Pp E (w_X4_odds E a_t a_text a_told a_reader a_tower a_kept a_isKept a_lifts a_seenAt a_seenInches a_ways a_trial v_liftsMany v_seenMany))) (vp_Sl post) 0 0 (fun _ => False) :=
  mx_metPl (by decide) rfl rfl (fun hB hP hRet ls hl => b_X4_odds E a_t a_text a_told a_reader a_tower a_kept a_isKept a_lifts a_seenAt a_seenInches a_ways a_trial v_liftsMany v_seenMany x1 x2 x3 x4 post hB hP hRet hf ls hl)
