def rm_X4_firstStuck : Room := { frames := 3, cells := 0, slots := 0, locals := 66 }
set_option maxHeartbeats 4000000 in
set_option maxRecDepth 100000 in
theorem b_X4_firstStuck {p : Program} {l : Launch} {e : Env} {s : State} {m : MethodId} {args : Array Value} {below : List Frame} {meth : Method} {c : Code} {Q : State → Prop} (E : mx_E) (a_t : Nat) (a_text : Nat) (a_told : Nat) (a_reader : Nat) (a_tower : Nat) (a_kept : Nat) (a_isKept : Nat) (a_lifts : Nat) (a_seenAt : Nat) (a_seenInches : Nat) (a_ways : Nat) (a_trial : Nat) (a_told_kind : Nat) (a_told_weight : Nat) (a_told_strength : Nat) (a_told_height : Nat) (a_told_folk : Nat) (a_told_mustBeAbove : Nat) (a_told_wind : Nat) (v_liftsMany : Int32) (v_seenMany : Int32) (v_trial : (Nat → Int32)) (v_told_storeys : Int32) (v_told_pairs : Int32) (v_told_bears : Int32) (v_told_soft : Int32) (v_told_cellars : Int32) (v_told_weight : (Nat → Int32)) (v_told_folk : (Nat → Int32)) (v_told_kind : (Nat → Int32)) (v_told_mustBeAbove : (Nat → Int32)) (v_told_strength : (Nat → Int32)) (x1 : Int32) (post : Int32 → Prop) (hB : mx_B p m c cX4_firstStuck 4 s args RX4 E) (hP : va_P E.1 vwCl (w_X4_firstStuck E a_t a_text a_told a_reader a_tower a_kept a_isKept a_lifts a_seenAt a_seenInches a_ways a_trial a_told_kind a_told_weight a_told_strength a_told_height a_told_folk a_told_mustBeAbove a_told_wind v_liftsMany v_seenMany v_trial v_told_storeys v_told_pairs v_told_bears v_told_soft v_told_cellars v_told_weight v_told_folk v_told_kind v_told_mustBeAbove v_told_strength) s.heap) (hRet : ∀ (v : Int32) (pc : Nat) (ls : Array Slot), decode cX4_firstStuck pc = .ok (.ireturn, 1) → post v → W p l e rm_X4_firstStuck s m args below meth c s.heap [] 0 0 Q (F0 m pc ls [.int v])) (hf : f_X4_firstStuck v_trial v_told_storeys v_told_weight v_told_folk v_told_bears v_told_kind v_told_cellars v_told_mustBeAbove v_told_strength x1 post) (ls : Array Slot) (hl : lv_has ls 4 [(0, .ref a_t), (1, .int x1)]) : W p l e rm_X4_firstStuck s m args below meth c s.heap [] 0 0 Q (F0 m 0 ls []) := by
  have hx := hB.x
  have hb := hB.b
  have L_4 : ∀ (g4_x1 : Int32) (n : Nat) (j4_x2 : Int32) (j4_x3 : Int32) (ls : Array Slot), mx_l2 (f_X4_firstStuck_4 v_trial v_told_storeys v_told_weight v_told_folk v_told_bears v_told_kind v_told_cellars v_told_mustBeAbove v_told_strength post g4_x1) n j4_x2 j4_x3 → lv_has ls 4 [(0, .ref a_t), (1, .int g4_x1), (2, .int j4_x2), (3, .int j4_x3)] → W p l e rm_X4_firstStuck s m args below meth c s.heap [] 0 0 Q (F0 m 4 ls []) := by
    intro g4_x1 n_4
    induction n_4 with
    | zero =>
      intro j4_x2 j4_x3 ls hf hl
      exact False.elim hf
    | succ n_4 ih_4 =>
      intro j4_x2 j4_x3 ls hf hl
      replace hf : f_X4_firstStuck_4 v_trial v_told_storeys v_told_weight v_told_folk v_told_bears v_told_kind v_told_cellars v_told_mustBeAbove v_told_strength post g4_x1 (mx_l2 (f_X4_firstStuck_4 v_trial v_told_storeys v_told_weight v_told_folk v_told_bears v_told_kind v_told_cellars v_told_mustBeAbove v_told_strength post g4_x1) n_4) j4_x2 j4_x3 := hf
      refine lv_iload_n hx hb dX4_firstStuck_4 rfl (lv_at hl 3 rfl) ?_
      refine lv_iload_n hx hb dX4_firstStuck_5 rfl (lv_at hl 1 rfl) ?_
      refine lv_icmp_ge (tgt := 69) hx hb dX4_firstStuck_6 (by decide) (fun c6 => ?_) (fun c6 => ?_)
      · have hf := hf.1 c6
        refine lv_iconst hx hb dX4_firstStuck_69 kc_i_m1 ?_
        exact hRet (-1) 70 ls dX4_firstStuck_70 hf
      · have hf := hf.2 c6
        refine lv_iload_n hx hb dX4_firstStuck_9 rfl (lv_at hl 3 rfl) ?_
        refine lv_aload_n hx hb dX4_firstStuck_10 rfl (lv_at hl 0 rfl) ?_
        refine gf_X4_60 hB hP 0 rfl rfl dX4_firstStuck_11 ?_
        refine va_alen hx hb hB.K hP 1 0 rfl rfl kc_n_8 dX4_firstStuck_14 ?_
        refine lv_icmp_ge (tgt := 69) hx hb dX4_firstStuck_15 (by decide) (fun c15 => ?_) (fun c15 => ?_)
        · have hf := hf.1 c15
          refine lv_iconst hx hb dX4_firstStuck_69 kc_i_m1 ?_
          exact hRet (-1) 70 ls dX4_firstStuck_70 hf
        · have hf := hf.2 c15
          refine lv_aload_n hx hb dX4_firstStuck_18 rfl (lv_at hl 0 rfl) ?_
          refine gf_X4_19 hB hP 0 rfl rfl dX4_firstStuck_19 ?_
          refine lv_aload_n hx hb dX4_firstStuck_22 rfl (lv_at hl 0 rfl) ?_
          refine gf_X4_60 hB hP 0 rfl rfl dX4_firstStuck_23 ?_
          refine lv_iload_n hx hb dX4_firstStuck_26 rfl (lv_at hl 3 rfl) ?_
          obtain ⟨h_in, hf⟩ := hf
          refine va_iald hx hb hB.K hP 1 0 rfl rfl h_in dX4_firstStuck_27 ?_
          refine lv_iload_n hx hb dX4_firstStuck_28 rfl (lv_at hl 2 rfl) ?_
          refine lv_aload_n hx hb dX4_firstStuck_29 rfl (lv_at hl 0 rfl) ?_
          refine gf_X4_19 hB hP 0 rfl rfl dX4_firstStuck_30 ?_
          refine lv_iload_n hx hb dX4_firstStuck_33 rfl (lv_at hl 2 rfl) ?_
          refine mx_gi (mx_runN (As := [.int j4_x2]) (rest := [.int j4_x2, .int (v_trial j4_x3.toNatClampNeg), .ref a_told]) hB (c_X1_loadOf l E a_told a_told_kind a_told_weight a_told_strength a_told_height a_told_folk a_told_mustBeAbove a_told_wind v_told_storeys v_told_pairs v_told_bears v_told_soft v_told_cellars v_told_weight v_told_folk j4_x2 _ hf) sB_X1_loadOf sV_X1_loadOf wmn_X4_119 rfl (mx_ppV hB hP [2, 3, 4] rfl 1 rfl rfl rfl) hl.1 rfl (Nat.le_of_ble_eq_true rfl) dX4_firstStuck_34 ⟨Nat.zero_le _, Nat.zero_le _⟩) (fun r1 hf => ?_)
          refine lv_aload_n hx hb dX4_firstStuck_37 rfl (lv_at hl 0 rfl) ?_
          refine gf_X4_19 hB hP 0 rfl rfl dX4_firstStuck_38 ?_
          refine gf_X4_173 hB hP 2 rfl rfl dX4_firstStuck_41 ?_
          refine mx_gi (mx_runN (As := [.int (v_trial j4_x3.toNatClampNeg), .int j4_x2, .int r1, .int v_told_bears]) (rest := []) hB (c_X1_whyNot l E a_told a_told_kind a_told_weight a_told_strength a_told_height a_told_folk a_told_mustBeAbove a_told_wind v_told_storeys v_told_pairs v_told_bears v_told_soft v_told_cellars v_told_kind v_told_mustBeAbove v_told_strength (v_trial j4_x3.toNatClampNeg) j4_x2 r1 v_told_bears _ hf) sB_X1_whyNot sV_X1_whyNot wmn_X4_176 rfl (mx_ppV hB hP [2, 5, 6, 7] rfl 1 rfl rfl rfl) hl.1 rfl (Nat.le_of_ble_eq_true rfl) dX4_firstStuck_44 ⟨Nat.zero_le _, Nat.zero_le _⟩) (fun r2 hf => ?_)
          refine lv_if_eq (tgt := 52) hx hb dX4_firstStuck_47 (by decide) (fun c47 => ?_) (fun c47 => ?_)
          · have hf := hf.1 c47
            refine lv_iload_n hx hb dX4_firstStuck_52 rfl (lv_at hl 2 rfl) ?_
            refine lv_iconst hx hb dX4_firstStuck_53 kc_i_1 ?_
            refine lv_aload_n hx hb dX4_firstStuck_54 rfl (lv_at hl 0 rfl) ?_
            refine gf_X4_60 hB hP 0 rfl rfl dX4_firstStuck_55 ?_
            refine lv_iload_n hx hb dX4_firstStuck_58 rfl (lv_at hl 3 rfl) ?_
            obtain ⟨h_in, hf⟩ := hf
            refine va_iald hx hb hB.K hP 1 0 rfl rfl h_in dX4_firstStuck_59 ?_
            refine lv_ishl hx hb dX4_firstStuck_60 ?_
            refine lv_ior hx hb dX4_firstStuck_61 ?_
            refine lv_istore_n (lv' := [(2, .int (j4_x2 ||| (1 <<< ((v_trial j4_x3.toNatClampNeg) &&& 31)))), (0, .ref a_t), (1, .int g4_x1), (3, .int j4_x3)]) hx hb dX4_firstStuck_62 rfl hl (by decide) rfl (fun ls hl => ?_)
            refine lv_iinc (v := j4_x3 + 1) (lv' := [(3, .int (j4_x3 + 1)), (2, .int (j4_x2 ||| (1 <<< ((v_trial j4_x3.toNatClampNeg) &&& 31)))), (0, .ref a_t), (1, .int g4_x1)]) hx hb dX4_firstStuck_63 hl (k := 3) rfl (by rw [kc_i_1]) (by decide) rfl (fun ls hl => ?_)
            refine lv_goto (tgt := 4) hx hb dX4_firstStuck_66 (by decide) ?_
            exact ih_4 (j4_x2 ||| (1 <<< ((v_trial j4_x3.toNatClampNeg) &&& 31))) (j4_x3 + 1) ls hf (lv_sub hl [2, 3, 1, 0] rfl)
          · have hf := hf.2 c47
            refine lv_iload_n hx hb dX4_firstStuck_50 rfl (lv_at hl 3 rfl) ?_
            exact hRet j4_x3 51 ls dX4_firstStuck_51 hf
  refine lv_iconst hx hb dX4_firstStuck_0 kc_i_0 ?_
  refine lv_istore_n (lv' := [(2, .int 0), (0, .ref a_t), (1, .int x1)]) hx hb dX4_firstStuck_1 rfl hl (by decide) rfl (fun ls hl => ?_)
  refine lv_iconst hx hb dX4_firstStuck_2 kc_i_0 ?_
  refine lv_istore_n (lv' := [(3, .int 0), (2, .int 0), (0, .ref a_t), (1, .int x1)]) hx hb dX4_firstStuck_3 rfl hl (by decide) rfl (fun ls hl => ?_)
  obtain ⟨n9, hf⟩ := hf
  exact L_4 x1 n9 0 0 ls hf (lv_sub hl [2, 3, 1, 0] rfl)
theorem c_X4_firstStuck (l : Launch) (E : mx_E) (a_t : Nat) (a_text : Nat) (a_told : Nat) (a_reader : Nat) (a_tower : Nat) (a_kept : Nat) (a_isKept : Nat) (a_lifts : Nat) (a_seenAt : Nat) (a_seenInches : Nat) (a_ways : Nat) (a_trial : Nat) (a_told_kind : Nat) (a_told_weight : Nat) (a_told_strength : Nat) (a_told_height : Nat) (a_told_folk : Nat) (a_told_mustBeAbove : Nat) (a_told_wind : Nat) (v_liftsMany : Int32) (v_seenMany : Int32) (v_trial : (Nat → Int32)) (v_told_storeys : Int32) (v_told_pairs : Int32) (v_told_bears : Int32) (v_told_soft : Int32) (v_told_cellars : Int32) (v_told_weight : (Nat → Int32)) (v_told_folk : (Nat → Int32)) (v_told_kind : (Nat → Int32)) (v_told_mustBeAbove : (Nat → Int32)) (v_told_strength : (Nat → Int32)) (x1 : Int32) (post : Int32 → Prop) (hf : f_X4_firstStuck v_trial v_told_storeys v_told_weight v_told_folk v_told_bears v_told_kind v_told_cellars v_told_mustBeAbove v_told_strength x1 post) : Met l yX4_firstStuck (Cond.code yX4_firstStuck cX4_firstStuck 4 (some .int) :: mx_WS) rm_X4_firstStuck (va_Pc [.ref a_t, .int x1] (mx_Pp E (w_X4_firstStuck E a_t a_text a_told a_reader a_tower a_kept a_isKept a_lifts a_seenAt a_seenInches a_ways a_trial a_told_kind a_told_weight a_told_strength a_told_height a_told_folk a_told_mustBeAbove a_told_wind v_liftsMany v_seenMany v_trial v_told_storeys v_told_pairs v_told_bears v_told_soft v_told_cellars v_told_weight v_told_folk v_told_kind v_told_mustBeAbove v_told_strength))) (vp_Si post) 0 0 (fun _ => False) :=
  mx_metPi (by decide) rfl rfl (fun hB hP hRet ls hl => b_X4_firstStuck E a_t a_text a_told a_reader a_tower a_kept a_isKept a_lifts a_seenAt a_seenInches a_ways a_trial a_told_kind a_told_weight a_told_strength a_told_height a_told_folk a_told_mustBeAbove a_told_wind v_liftsMany v_seenMany v_trial v_told_storeys v_told_pairs v_told_bears v_told_soft v_told_cellars v_told_weight v_told_folk v_told_kind v_told_mustBeAbove v_told_strength x1 post hB hP hRet hf ls hl)
def rm_X4_without : Room := { frames := 4, cells := 0, slots := 0, locals := 89 }
set_option maxHeartbeats 4000000 in
set_option maxRecDepth 100000 in
theorem b_X4_without {p : Program} {l : Launch} {e : Env} {s : State} {m : MethodId} {args : Array Value} {below : List Frame} {meth : Method} {c : Code} {Q : State → Prop} {A : Nat → Prop} (E : mx_E) (a_t : Nat) (a_text : Nat) (a_told : Nat) (a_reader : Nat) (a_tower : Nat) (a_kept : Nat) (a_isKept : Nat) (a_lifts : Nat) (a_seenAt : Nat) (a_seenInches : Nat) (a_ways : Nat) (a_trial : Nat) (a_told_kind : Nat) (a_told_weight : Nat) (a_told_strength : Nat) (a_told_height : Nat) (a_told_folk : Nat) (a_told_mustBeAbove : Nat) (a_told_wind : Nat) (a_tower_order : Nat) (v_liftsMany : Int32) (v_seenMany : Int32) (v_told_storeys : Int32) (v_told_pairs : Int32) (v_told_bears : Int32) (v_told_soft : Int32) (v_told_cellars : Int32) (v_tower_many : Int32) (v_tower_day : Int32) (v_tower_order : (Nat → Int32)) (v_trial : (Nat → Int32)) (v_told_weight : (Nat → Int32)) (v_told_folk : (Nat → Int32)) (v_told_kind : (Nat → Int32)) (v_told_mustBeAbove : (Nat → Int32)) (v_told_strength : (Nat → Int32)) (x1 : Int32) (post : Int32 → (Nat → Int32) → Prop) (hB : mx_B p m c cX4_without 5 s args RX4 E) (hP : va_P E.1 vwCl (w_X4_without E a_t a_text a_told a_reader a_tower a_kept a_isKept a_lifts a_seenAt a_seenInches a_ways a_trial a_told_kind a_told_weight a_told_strength a_told_height a_told_folk a_told_mustBeAbove a_told_wind a_tower_order v_liftsMany v_seenMany v_told_storeys v_told_pairs v_told_bears v_told_soft v_told_cellars v_tower_many v_tower_day v_tower_order v_trial v_told_weight v_told_folk v_told_kind v_told_mustBeAbove v_told_strength) s.heap) (hD : va_D A (w_X4_without E a_t a_text a_told a_reader a_tower a_kept a_isKept a_lifts a_seenAt a_seenInches a_ways a_trial a_told_kind a_told_weight a_told_strength a_told_height a_told_folk a_told_mustBeAbove a_told_wind a_tower_order v_liftsMany v_seenMany v_told_storeys v_told_pairs v_told_bears v_told_soft v_told_cellars v_tower_many v_tower_day v_tower_order v_trial v_told_weight v_told_folk v_told_kind v_told_mustBeAbove v_told_strength)) (hA : ∀ q : Nat, s.heap.size ≤ q → A q) (hRet : ∀ (v : Int32) (u : (Nat → Int32)) (pc : Nat) (ls : Array Slot) (H : Heap) (locs : List Loc), decode cX4_without pc = .ok (.ireturn, 1) → post v u → va_P E.1 vwCl (w_X4_without E a_t a_text a_told a_reader a_tower a_kept a_isKept a_lifts a_seenAt a_seenInches a_ways a_trial a_told_kind a_told_weight a_told_strength a_told_height a_told_folk a_told_mustBeAbove a_told_wind a_tower_order v_liftsMany v_seenMany v_told_storeys v_told_pairs v_told_bears v_told_soft v_told_cellars v_tower_many v_tower_day v_tower_order u v_told_weight v_told_folk v_told_kind v_told_mustBeAbove v_told_strength) H → va_S A s.heap H locs → W p l e rm_X4_without s m args below meth c H locs 0 0 Q (F0 m pc ls [.int v])) (hf : f_X4_without v_told_storeys v_tower_many v_tower_order v_told_weight v_told_folk v_told_bears v_told_kind v_told_cellars v_told_mustBeAbove v_told_strength v_trial x1 post) (ls : Array Slot) (hl : lv_has ls 5 [(0, .ref a_t), (1, .int x1)]) : W p l e rm_X4_without s m args below meth c s.heap [] 0 0 Q (F0 m 0 ls []) := by
  have hx := hB.x
  have hb := hB.b
  have hS : va_S A s.heap s.heap [] := va_S.rf
  have J_79 : ∀ (j79_x3 : Int32) (j79_v_trial : (Nat → Int32)) (ls : Array Slot) (H : Heap) (locs : List Loc), f_X4_without_79 v_told_storeys v_tower_many v_tower_order v_told_weight v_told_folk v_told_bears v_told_kind v_told_cellars v_told_mustBeAbove v_told_strength post j79_x3 j79_v_trial → lv_has ls 5 [(0, .ref a_t), (3, .int j79_x3)] → va_P E.1 vwCl (w_X4_without E a_t a_text a_told a_reader a_tower a_kept a_isKept a_lifts a_seenAt a_seenInches a_ways a_trial a_told_kind a_told_weight a_told_strength a_told_height a_told_folk a_told_mustBeAbove a_told_wind a_tower_order v_liftsMany v_seenMany v_told_storeys v_told_pairs v_told_bears v_told_soft v_told_cellars v_tower_many v_tower_day v_tower_order j79_v_trial v_told_weight v_told_folk v_told_kind v_told_mustBeAbove v_told_strength) H → va_D A (w_X4_without E a_t a_text a_told a_reader a_tower a_kept a_isKept a_lifts a_seenAt a_seenInches a_ways a_trial a_told_kind a_told_weight a_told_strength a_told_height a_told_folk a_told_mustBeAbove a_told_wind a_tower_order v_liftsMany v_seenMany v_told_storeys v_told_pairs v_told_bears v_told_soft v_told_cellars v_tower_many v_tower_day v_tower_order j79_v_trial v_told_weight v_told_folk v_told_kind v_told_mustBeAbove v_told_strength) → va_S A s.heap H locs → W p l e rm_X4_without s m args below meth c H locs 0 0 Q (F0 m 79 ls []) := by
    intro j79_x3 j79_v_trial ls H locs hf hl hP hD hS
    refine lv_aload_n hx hb dX4_without_79 rfl (lv_at hl 0 rfl) ?_
    refine lv_iload_n hx hb dX4_without_80 rfl (lv_at hl 1 rfl) ?_
    refine mx_gi (mx_runV (As := [.int j79_x3]) (rest := []) hB (c_X4_firstStuck l E a_t a_text a_told a_reader a_tower a_kept a_isKept a_lifts a_seenAt a_seenInches a_ways a_trial a_told_kind a_told_weight a_told_strength a_told_height a_told_folk a_told_mustBeAbove a_told_wind v_liftsMany v_seenMany j79_v_trial v_told_storeys v_told_pairs v_told_bears v_told_soft v_told_cellars v_told_weight v_told_folk v_told_kind v_told_mustBeAbove v_told_strength j79_x3 _ hf) sB_X4_firstStuck sV_X4_firstStuck wml_X4_203 rfl (mx_ppV hB hP [0, 4, 1, 5, 6, 7, 8, 9] rfl 4 rfl rfl rfl) hl.1 rfl (Nat.le_of_ble_eq_true rfl) dX4_without_81 ⟨Nat.zero_le _, Nat.zero_le _⟩) (fun r1 hf => ?_)
    exact hRet r1 j79_v_trial 84 ls H locs dX4_without_84 hf hP hS
  have L_36 : ∀ (g36_x2 : Int32) (n : Nat) (j36_x3 : Int32) (j36_x4 : Int32) (j36_v_trial : (Nat → Int32)) (ls : Array Slot) (H : Heap) (locs : List Loc), mx_l3 (f_X4_without_36 v_told_storeys v_tower_many v_tower_order v_told_weight v_told_folk v_told_bears v_told_kind v_told_cellars v_told_mustBeAbove v_told_strength post g36_x2) n j36_x3 j36_x4 j36_v_trial → lv_has ls 5 [(0, .ref a_t), (2, .int g36_x2), (3, .int j36_x3), (4, .int j36_x4)] → va_P E.1 vwCl (w_X4_without E a_t a_text a_told a_reader a_tower a_kept a_isKept a_lifts a_seenAt a_seenInches a_ways a_trial a_told_kind a_told_weight a_told_strength a_told_height a_told_folk a_told_mustBeAbove a_told_wind a_tower_order v_liftsMany v_seenMany v_told_storeys v_told_pairs v_told_bears v_told_soft v_told_cellars v_tower_many v_tower_day v_tower_order j36_v_trial v_told_weight v_told_folk v_told_kind v_told_mustBeAbove v_told_strength) H → va_D A (w_X4_without E a_t a_text a_told a_reader a_tower a_kept a_isKept a_lifts a_seenAt a_seenInches a_ways a_trial a_told_kind a_told_weight a_told_strength a_told_height a_told_folk a_told_mustBeAbove a_told_wind a_tower_order v_liftsMany v_seenMany v_told_storeys v_told_pairs v_told_bears v_told_soft v_told_cellars v_tower_many v_tower_day v_tower_order j36_v_trial v_told_weight v_told_folk v_told_kind v_told_mustBeAbove v_told_strength) → va_S A s.heap H locs → W p l e rm_X4_without s m args below meth c H locs 0 0 Q (F0 m 36 ls []) := by
    intro g36_x2 n_36
    induction n_36 with
    | zero =>
      intro j36_x3 j36_x4 j36_v_trial ls H locs hf hl hP hD hS
      exact False.elim hf
    | succ n_36 ih_36 =>
      intro j36_x3 j36_x4 j36_v_trial ls H locs hf hl hP hD hS
      replace hf : f_X4_without_36 v_told_storeys v_tower_many v_tower_order v_told_weight v_told_folk v_told_bears v_told_kind v_told_cellars v_told_mustBeAbove v_told_strength post g36_x2 (mx_l3 (f_X4_without_36 v_told_storeys v_tower_many v_tower_order v_told_weight v_told_folk v_told_bears v_told_kind v_told_cellars v_told_mustBeAbove v_told_strength post g36_x2) n_36) j36_x3 j36_x4 j36_v_trial := hf
      refine lv_iload hx hb dX4_without_36 (lv_at hl 3 rfl) ?_
      refine lv_aload_n hx hb dX4_without_38 rfl (lv_at hl 0 rfl) ?_
      refine gf_X4_35 hB hP 0 rfl rfl dX4_without_39 ?_
      refine gf_X4_140 hB hP 2 rfl rfl dX4_without_42 ?_
      refine lv_icmp_ge (tgt := 79) hx hb dX4_without_45 (by decide) (fun c45 => ?_) (fun c45 => ?_)
      · have hf := hf.1 c45
        exact J_79 j36_x3 j36_v_trial ls H locs hf (lv_sub hl [0, 2] rfl) hP hD hS
      · have hf := hf.2 c45
        refine lv_iload hx hb dX4_without_48 (lv_at hl 3 rfl) ?_
        refine lv_iload_n hx hb dX4_without_50 rfl (lv_at hl 1 rfl) ?_
        refine lv_icmp_eq (tgt := 73) hx hb dX4_without_51 (by decide) (fun c51 => ?_) (fun c51 => ?_)
        · have hf := hf.1 c51
          refine lv_iinc (v := j36_x4 + 1) (lv' := [(4, .int (j36_x4 + 1)), (0, .ref a_t), (2, .int g36_x2), (3, .int j36_x3)]) hx hb dX4_without_73 hl (k := 3) rfl (by rw [kc_i_1]) (by decide) rfl (fun ls hl => ?_)
          refine lv_goto (tgt := 36) hx hb dX4_without_76 (by decide) ?_
          exact ih_36 j36_x3 (j36_x4 + 1) j36_v_trial ls H locs hf (lv_sub hl [1, 2, 3, 0] rfl) hP hD hS
        · have hf := hf.2 c51
          refine lv_aload_n hx hb dX4_without_54 rfl (lv_at hl 0 rfl) ?_
          refine gf_X4_60 hB hP 0 rfl rfl dX4_without_55 ?_
          refine lv_iload_n hx hb dX4_without_58 rfl (lv_at hl 2 rfl) ?_
          refine lv_aload_n hx hb dX4_without_59 rfl (lv_at hl 0 rfl) ?_
          refine gf_X4_35 hB hP 0 rfl rfl dX4_without_60 ?_
          refine gf_X4_143 hB hP 2 rfl rfl dX4_without_63 ?_
          refine lv_iload hx hb dX4_without_66 (lv_at hl 3 rfl) ?_
          obtain ⟨h_in, hf⟩ := hf
          refine va_iald hx hb hB.K hP 3 0 rfl rfl h_in dX4_without_68 ?_
          obtain ⟨h_in, hf⟩ := hf
          refine va_iast hx hb hB.K hP hD hS 4 0 rfl rfl h_in dX4_without_69 (fun H locs hP hD hS => ?_)
          have hP : va_P E.1 vwCl (w_X4_without E a_t a_text a_told a_reader a_tower a_kept a_isKept a_lifts a_seenAt a_seenInches a_ways a_trial a_told_kind a_told_weight a_told_strength a_told_height a_told_folk a_told_mustBeAbove a_told_wind a_tower_order v_liftsMany v_seenMany v_told_storeys v_told_pairs v_told_bears v_told_soft v_told_cellars v_tower_many v_tower_day v_tower_order (upd j36_v_trial j36_x3.toNatClampNeg (v_tower_order j36_x4.toNatClampNeg)) v_told_weight v_told_folk v_told_kind v_told_mustBeAbove v_told_strength) H := hP
          have hD : va_D A (w_X4_without E a_t a_text a_told a_reader a_tower a_kept a_isKept a_lifts a_seenAt a_seenInches a_ways a_trial a_told_kind a_told_weight a_told_strength a_told_height a_told_folk a_told_mustBeAbove a_told_wind a_tower_order v_liftsMany v_seenMany v_told_storeys v_told_pairs v_told_bears v_told_soft v_told_cellars v_tower_many v_tower_day v_tower_order (upd j36_v_trial j36_x3.toNatClampNeg (v_tower_order j36_x4.toNatClampNeg)) v_told_weight v_told_folk v_told_kind v_told_mustBeAbove v_told_strength) := hD
          refine lv_iinc (v := j36_x3 + 1) (lv' := [(3, .int (j36_x3 + 1)), (0, .ref a_t), (2, .int g36_x2), (4, .int j36_x4)]) hx hb dX4_without_70 hl (k := 2) rfl (by rw [kc_i_1]) (by decide) rfl (fun ls hl => ?_)
          refine lv_iinc (v := j36_x4 + 1) (lv' := [(4, .int (j36_x4 + 1)), (3, .int (j36_x3 + 1)), (0, .ref a_t), (2, .int g36_x2)]) hx hb dX4_without_73 hl (k := 3) rfl (by rw [kc_i_1]) (by decide) rfl (fun ls hl => ?_)
          refine lv_goto (tgt := 36) hx hb dX4_without_76 (by decide) ?_
          exact ih_36 (j36_x3 + 1) (j36_x4 + 1) (upd j36_v_trial j36_x3.toNatClampNeg (v_tower_order j36_x4.toNatClampNeg)) ls H locs hf (lv_sub hl [2, 3, 1, 0] rfl) hP hD hS
  obtain ⟨H, locs, eH, eL⟩ : ∃ (H : Heap) (locs : List Loc), H = s.heap ∧ locs = [] := ⟨_, _, rfl, rfl⟩
  rw [← eH] at hP
  have hS : va_S A s.heap H locs := by rw [eH, eL]; exact hS
  show W p l e rm_X4_without s m args below meth c s.heap [] 0 0 Q (F0 m 0 ls [])
  rw [← eH, ← eL]
  refine lv_aload_n hx hb dX4_without_0 rfl (lv_at hl 0 rfl) ?_
  refine gf_X4_19 hB hP 0 rfl rfl dX4_without_1 ?_
  refine lv_iload_n hx hb dX4_without_4 rfl (lv_at hl 1 rfl) ?_
  refine mx_gi (mx_runN (As := [.int x1]) (rest := []) hB (c_X1_has l E a_told a_told_kind a_told_weight a_told_strength a_told_height a_told_folk a_told_mustBeAbove a_told_wind v_told_storeys v_told_pairs v_told_bears v_told_soft v_told_cellars x1 _ hf) sB_X1_has sV_X1_has wmn_X4_96 rfl (mx_ppV hB hP [1] rfl 1 rfl rfl rfl) hl.1 rfl (Nat.le_of_ble_eq_true rfl) dX4_without_5 ⟨Nat.zero_le _, Nat.zero_le _⟩) (fun r1 hf => ?_)
  refine lv_if_ne (tgt := 14) hx hb dX4_without_8 (by decide) (fun c8 => ?_) (fun c8 => ?_)
  · have hf := hf.1 c8
    refine lv_aload_n hx hb dX4_without_14 rfl (lv_at hl 0 rfl) ?_
    refine gf_X4_35 hB hP 0 rfl rfl dX4_without_15 ?_
    refine lv_iload_n hx hb dX4_without_18 rfl (lv_at hl 1 rfl) ?_
    refine mx_gi (mx_runN (As := [.int x1]) (rest := []) hB (c_X3_placeOf l E a_tower a_tower_order v_tower_many v_tower_day v_tower_order x1 _ hf) sB_X3_placeOf sV_X3_placeOf wmn_X4_146 rfl (mx_ppV hB hP [2, 3] rfl 3 rfl rfl rfl) hl.1 rfl (Nat.le_of_ble_eq_true rfl) dX4_without_19 ⟨Nat.zero_le _, Nat.zero_le _⟩) (fun r2 hf => ?_)
    refine lv_istore_n (lv' := [(2, .int r2), (0, .ref a_t), (1, .int x1)]) hx hb dX4_without_22 rfl hl (by decide) rfl (fun ls hl => ?_)
    refine lv_iload_n hx hb dX4_without_23 rfl (lv_at hl 0 rfl) ?_
    refine lv_iconst hx hb dX4_without_24 kc_i_m1 ?_
    refine lv_icmp_ne (tgt := 31) hx hb dX4_without_25 (by decide) (fun c25 => ?_) (fun c25 => ?_)
    · have hf := hf.1 c25
      refine lv_iconst hx hb dX4_without_31 kc_i_0 ?_
      refine lv_istore_n (lv' := [(3, .int 0), (2, .int r2), (0, .ref a_t), (1, .int x1)]) hx hb dX4_without_32 rfl hl (by decide) rfl (fun ls hl => ?_)
      refine lv_iconst hx hb dX4_without_33 kc_i_0 ?_
      refine lv_istore (lv' := [(4, .int 0), (3, .int 0), (2, .int r2), (0, .ref a_t), (1, .int x1)]) hx hb dX4_without_34 hl (by decide) rfl (fun ls hl => ?_)
      obtain ⟨n9, hf⟩ := hf
      exact L_36 r2 n9 0 0 v_trial ls H locs hf (lv_sub hl [3, 2, 1, 0] rfl) hP hD hS
    · have hf := hf.2 c25
      refine lv_bipush hx hb dX4_without_28 kc_b_m4 ?_
      exact hRet (-4) v_trial 30 ls H locs dX4_without_30 hf hP hS
  · have hf := hf.2 c8
    refine lv_bipush hx hb dX4_without_11 kc_b_m2 ?_
    exact hRet (-2) v_trial 13 ls H locs dX4_without_13 hf hP hS
theorem c_X4_without (l : Launch) (E : mx_E) (a_t : Nat) (a_text : Nat) (a_told : Nat) (a_reader : Nat) (a_tower : Nat) (a_kept : Nat) (a_isKept : Nat) (a_lifts : Nat) (a_seenAt : Nat) (a_seenInches : Nat) (a_ways : Nat) (a_trial : Nat) (a_told_kind : Nat) (a_told_weight : Nat) (a_told_strength : Nat) (a_told_height : Nat) (a_told_folk : Nat) (a_told_mustBeAbove : Nat) (a_told_wind : Nat) (a_tower_order : Nat) (v_liftsMany : Int32) (v_seenMany : Int32) (v_told_storeys : Int32) (v_told_pairs : Int32) (v_told_bears : Int32) (v_told_soft : Int32) (v_told_cellars : Int32) (v_tower_many : Int32) (v_tower_day : Int32) (v_tower_order : (Nat → Int32)) (v_trial : (Nat → Int32)) (v_told_weight : (Nat → Int32)) (v_told_folk : (Nat → Int32)) (v_told_kind : (Nat → Int32)) (v_told_mustBeAbove : (Nat → Int32)) (v_told_strength : (Nat → Int32)) (sz : Nat) (x1 : Int32) (post : Int32 → (Nat → Int32) → Prop) (hf : f_X4_without v_told_storeys v_tower_many v_tower_order v_told_weight v_told_folk v_told_bears v_told_kind v_told_cellars v_told_mustBeAbove v_told_strength v_trial x1 post) : Met l yX4_without (Cond.code yX4_without cX4_without 5 (some .int) :: mx_WS) rm_X4_without (va_Pc [.ref a_t, .int x1] (mx_Pw E (w_X4_without E a_t a_text a_told a_reader a_tower a_kept a_isKept a_lifts a_seenAt a_seenInches a_ways a_trial a_told_kind a_told_weight a_told_strength a_told_height a_told_folk a_told_mustBeAbove a_told_wind a_tower_order v_liftsMany v_seenMany v_told_storeys v_told_pairs v_told_bears v_told_soft v_told_cellars v_tower_many v_tower_day v_tower_order v_trial v_told_weight v_told_folk v_told_kind v_told_mustBeAbove v_told_strength) sz)) (va_Qi (fun (v : Int32) (u : (Nat → Int32)) => post v u) (fun u t => va_P E.1 vwCl (w_X4_without E a_t a_text a_told a_reader a_tower a_kept a_isKept a_lifts a_seenAt a_seenInches a_ways a_trial a_told_kind a_told_weight a_told_strength a_told_height a_told_folk a_told_mustBeAbove a_told_wind a_tower_order v_liftsMany v_seenMany v_told_storeys v_told_pairs v_told_bears v_told_soft v_told_cellars v_tower_many v_tower_day v_tower_order u v_told_weight v_told_folk v_told_kind v_told_mustBeAbove v_told_strength) t.heap) (va_A (w_X4_without E a_t a_text a_told a_reader a_tower a_kept a_isKept a_lifts a_seenAt a_seenInches a_ways a_trial a_told_kind a_told_weight a_told_strength a_told_height a_told_folk a_told_mustBeAbove a_told_wind a_tower_order v_liftsMany v_seenMany v_told_storeys v_told_pairs v_told_bears v_told_soft v_told_cellars v_tower_many v_tower_day v_tower_order v_trial v_told_weight v_told_folk v_told_kind v_told_mustBeAbove v_told_strength) sz)) 0 0 (va_A (w_X4_without E a_t a_text a_told a_reader a_tower a_kept a_isKept a_lifts a_seenAt a_seenInches a_ways a_trial a_told_kind a_told_weight a_told_strength a_told_height a_told_folk a_told_mustBeAbove a_told_wind a_tower_order v_liftsMany v_seenMany v_told_storeys v_told_pairs v_told_bears v_told_soft v_told_cellars v_tower_many v_tower_day v_tower_order v_trial v_told_weight v_told_folk v_told_kind v_told_mustBeAbove v_told_strength) sz) :=
  mx_metWi (by decide) rfl rfl (fun hB hP hD hA hRet ls hl => b_X4_without E a_t a_text a_told a_reader a_tower a_kept a_isKept a_lifts a_seenAt a_seenInches a_ways a_trial a_told_kind a_told_weight a_told_strength a_told_height a_told_folk a_told_mustBeAbove a_told_wind a_tower_order v_liftsMany v_seenMany v_told_storeys v_told_pairs v_told_bears v_told_soft v_told_cellars v_tower_many v_tower_day v_tower_order v_trial v_told_weight v_told_folk v_told_kind v_told_mustBeAbove v_told_strength x1 post hB hP hD hA hRet hf ls hl)
def rm_X4_in : Room := { frames := 4, cells := 0, slots := 0, locals := 89 }
set_option maxHeartbeats 4000000 in
set_option maxRecDepth 100000 in
theorem b_X4_in {p : Program} {l : Launch} {e : Env} {s : State} {m : MethodId} {args : Array Value} {below : List Frame} {meth : Method} {c : Code} {Q : State → Prop} {A : Nat → Prop} (E : mx_E) (a_t : Nat) (a_text : Nat) (a_told : Nat) (a_reader : Nat) (a_tower : Nat) (a_kept : Nat) (a_isKept : Nat) (a_lifts : Nat) (a_seenAt : Nat) (a_seenInches : Nat) (a_ways : Nat) (a_trial : Nat) (a_told_kind : Nat) (a_told_weight : Nat) (a_told_strength : Nat) (a_told_height : Nat) (a_told_folk : Nat) (a_told_mustBeAbove : Nat) (a_told_wind : Nat) (a_tower_order : Nat) (v_liftsMany : Int32) (v_seenMany : Int32) (v_told_storeys : Int32) (v_told_pairs : Int32) (v_told_bears : Int32) (v_told_soft : Int32) (v_told_cellars : Int32) (v_tower_many : Int32) (v_tower_day : Int32) (v_tower_order : (Nat → Int32)) (v_trial : (Nat → Int32)) (v_told_weight : (Nat → Int32)) (v_told_folk : (Nat → Int32)) (v_told_kind : (Nat → Int32)) (v_told_mustBeAbove : (Nat → Int32)) (v_told_strength : (Nat → Int32)) (x1 : Int32) (x2 : Int32) (post : Int32 → (Nat → Int32) → Prop) (hB : mx_B p m c cX4_in 4 s args RX4 E) (hP : va_P E.1 vwCl (w_X4_in E a_t a_text a_told a_reader a_tower a_kept a_isKept a_lifts a_seenAt a_seenInches a_ways a_trial a_told_kind a_told_weight a_told_strength a_told_height a_told_folk a_told_mustBeAbove a_told_wind a_tower_order v_liftsMany v_seenMany v_told_storeys v_told_pairs v_told_bears v_told_soft v_told_cellars v_tower_many v_tower_day v_tower_order v_trial v_told_weight v_told_folk v_told_kind v_told_mustBeAbove v_told_strength) s.heap) (hD : va_D A (w_X4_in E a_t a_text a_told a_reader a_tower a_kept a_isKept a_lifts a_seenAt a_seenInches a_ways a_trial a_told_kind a_told_weight a_told_strength a_told_height a_told_folk a_told_mustBeAbove a_told_wind a_tower_order v_liftsMany v_seenMany v_told_storeys v_told_pairs v_told_bears v_told_soft v_told_cellars v_tower_many v_tower_day v_tower_order v_trial v_told_weight v_told_folk v_told_kind v_told_mustBeAbove v_told_strength)) (hA : ∀ q : Nat, s.heap.size ≤ q → A q) (hRet : ∀ (v : Int32) (u : (Nat → Int32)) (pc : Nat) (ls : Array Slot) (H : Heap) (locs : List Loc), decode cX4_in pc = .ok (.ireturn, 1) → post v u → va_P E.1 vwCl (w_X4_in E a_t a_text a_told a_reader a_tower a_kept a_isKept a_lifts a_seenAt a_seenInches a_ways a_trial a_told_kind a_told_weight a_told_strength a_told_height a_told_folk a_told_mustBeAbove a_told_wind a_tower_order v_liftsMany v_seenMany v_told_storeys v_told_pairs v_told_bears v_told_soft v_told_cellars v_tower_many v_tower_day v_tower_order u v_told_weight v_told_folk v_told_kind v_told_mustBeAbove v_told_strength) H → va_S A s.heap H locs → W p l e rm_X4_in s m args below meth c H locs 0 0 Q (F0 m pc ls [.int v])) (hf : f_X4_in v_told_storeys v_tower_many v_tower_order v_told_weight v_told_folk v_told_bears v_told_kind v_told_cellars v_told_mustBeAbove v_told_strength v_trial x1 x2 post) (ls : Array Slot) (hl : lv_has ls 4 [(0, .ref a_t), (1, .int x1), (2, .int x2)]) : W p l e rm_X4_in s m args below meth c s.heap [] 0 0 Q (F0 m 0 ls []) := by
  have hx := hB.x
  have hb := hB.b
  have hS : va_S A s.heap s.heap [] := va_S.rf
  have J_104 : ∀ (j104_x1 : Int32) (j104_x2 : Int32) (j104_v_trial : (Nat → Int32)) (ls : Array Slot) (H : Heap) (locs : List Loc), f_X4_in_104 v_told_storeys v_tower_many v_tower_order v_told_weight v_told_folk v_told_bears v_told_kind v_told_cellars v_told_mustBeAbove v_told_strength post j104_x1 j104_x2 j104_v_trial → lv_has ls 4 [(0, .ref a_t), (1, .int j104_x1), (2, .int j104_x2)] → va_P E.1 vwCl (w_X4_in E a_t a_text a_told a_reader a_tower a_kept a_isKept a_lifts a_seenAt a_seenInches a_ways a_trial a_told_kind a_told_weight a_told_strength a_told_height a_told_folk a_told_mustBeAbove a_told_wind a_tower_order v_liftsMany v_seenMany v_told_storeys v_told_pairs v_told_bears v_told_soft v_told_cellars v_tower_many v_tower_day v_tower_order j104_v_trial v_told_weight v_told_folk v_told_kind v_told_mustBeAbove v_told_strength) H → va_D A (w_X4_in E a_t a_text a_told a_reader a_tower a_kept a_isKept a_lifts a_seenAt a_seenInches a_ways a_trial a_told_kind a_told_weight a_told_strength a_told_height a_told_folk a_told_mustBeAbove a_told_wind a_tower_order v_liftsMany v_seenMany v_told_storeys v_told_pairs v_told_bears v_told_soft v_told_cellars v_tower_many v_tower_day v_tower_order j104_v_trial v_told_weight v_told_folk v_told_kind v_told_mustBeAbove v_told_strength) → va_S A s.heap H locs → W p l e rm_X4_in s m args below meth c H locs 0 0 Q (F0 m 104 ls []) := by
    intro j104_x1 j104_x2 j104_v_trial ls H locs hf hl hP hD hS
    refine lv_aload_n hx hb dX4_in_104 rfl (lv_at hl 0 rfl) ?_
    refine gf_X4_60 hB hP 0 rfl rfl dX4_in_105 ?_
    refine lv_iload_n hx hb dX4_in_108 rfl (lv_at hl 2 rfl) ?_
    refine lv_iload_n hx hb dX4_in_109 rfl (lv_at hl 1 rfl) ?_
    obtain ⟨h_in, hf⟩ := hf
    refine va_iast hx hb hB.K hP hD hS 4 0 rfl rfl h_in dX4_in_110 (fun H locs hP hD hS => ?_)
    have hP : va_P E.1 vwCl (w_X4_in E a_t a_text a_told a_reader a_tower a_kept a_isKept a_lifts a_seenAt a_seenInches a_ways a_trial a_told_kind a_told_weight a_told_strength a_told_height a_told_folk a_told_mustBeAbove a_told_wind a_tower_order v_liftsMany v_seenMany v_told_storeys v_told_pairs v_told_bears v_told_soft v_told_cellars v_tower_many v_tower_day v_tower_order (upd j104_v_trial j104_x2.toNatClampNeg j104_x1) v_told_weight v_told_folk v_told_kind v_told_mustBeAbove v_told_strength) H := hP
    have hD : va_D A (w_X4_in E a_t a_text a_told a_reader a_tower a_kept a_isKept a_lifts a_seenAt a_seenInches a_ways a_trial a_told_kind a_told_weight a_told_strength a_told_height a_told_folk a_told_mustBeAbove a_told_wind a_tower_order v_liftsMany v_seenMany v_told_storeys v_told_pairs v_told_bears v_told_soft v_told_cellars v_tower_many v_tower_day v_tower_order (upd j104_v_trial j104_x2.toNatClampNeg j104_x1) v_told_weight v_told_folk v_told_kind v_told_mustBeAbove v_told_strength) := hD
    refine lv_aload_n hx hb dX4_in_111 rfl (lv_at hl 0 rfl) ?_
    refine lv_aload_n hx hb dX4_in_112 rfl (lv_at hl 0 rfl) ?_
    refine gf_X4_35 hB hP 0 rfl rfl dX4_in_113 ?_
    refine gf_X4_140 hB hP 2 rfl rfl dX4_in_116 ?_
    refine lv_iconst hx hb dX4_in_119 kc_i_1 ?_
    refine lv_iadd hx hb dX4_in_120 ?_
    refine mx_gi (mx_runV (As := [.int (v_tower_many + 1)]) (rest := []) hB (c_X4_firstStuck l E a_t a_text a_told a_reader a_tower a_kept a_isKept a_lifts a_seenAt a_seenInches a_ways a_trial a_told_kind a_told_weight a_told_strength a_told_height a_told_folk a_told_mustBeAbove a_told_wind v_liftsMany v_seenMany (upd j104_v_trial j104_x2.toNatClampNeg j104_x1) v_told_storeys v_told_pairs v_told_bears v_told_soft v_told_cellars v_told_weight v_told_folk v_told_kind v_told_mustBeAbove v_told_strength (v_tower_many + 1) _ hf) sB_X4_firstStuck sV_X4_firstStuck wml_X4_203 rfl (mx_ppV hB hP [0, 4, 1, 5, 6, 7, 8, 9] rfl 4 rfl rfl rfl) hl.1 rfl (Nat.le_of_ble_eq_true rfl) dX4_in_121 ⟨Nat.zero_le _, Nat.zero_le _⟩) (fun r1 hf => ?_)
    refine lv_iconst hx hb dX4_in_124 kc_i_m1 ?_
    refine lv_icmp_ne (tgt := 132) hx hb dX4_in_125 (by decide) (fun c125 => ?_) (fun c125 => ?_)
    · have hf := hf.1 c125
      refine lv_iconst hx hb dX4_in_132 kc_i_0 ?_
      exact hRet 0 (upd j104_v_trial j104_x2.toNatClampNeg j104_x1) 133 ls H locs dX4_in_133 hf hP hS
    · have hf := hf.2 c125
      refine lv_iconst hx hb dX4_in_128 kc_i_1 ?_
      refine lv_goto (tgt := 133) hx hb dX4_in_129 (by decide) ?_
      exact hRet 1 (upd j104_v_trial j104_x2.toNatClampNeg j104_x1) 133 ls H locs dX4_in_133 hf hP hS
  have L_61 : ∀ (g61_x1 : Int32) (g61_x2 : Int32) (n : Nat) (j61_x3 : Int32) (j61_v_trial : (Nat → Int32)) (ls : Array Slot) (H : Heap) (locs : List Loc), mx_l2 (f_X4_in_61 v_told_storeys v_tower_many v_tower_order v_told_weight v_told_folk v_told_bears v_told_kind v_told_cellars v_told_mustBeAbove v_told_strength post g61_x1 g61_x2) n j61_x3 j61_v_trial → lv_has ls 4 [(0, .ref a_t), (1, .int g61_x1), (2, .int g61_x2), (3, .int j61_x3)] → va_P E.1 vwCl (w_X4_in E a_t a_text a_told a_reader a_tower a_kept a_isKept a_lifts a_seenAt a_seenInches a_ways a_trial a_told_kind a_told_weight a_told_strength a_told_height a_told_folk a_told_mustBeAbove a_told_wind a_tower_order v_liftsMany v_seenMany v_told_storeys v_told_pairs v_told_bears v_told_soft v_told_cellars v_tower_many v_tower_day v_tower_order j61_v_trial v_told_weight v_told_folk v_told_kind v_told_mustBeAbove v_told_strength) H → va_D A (w_X4_in E a_t a_text a_told a_reader a_tower a_kept a_isKept a_lifts a_seenAt a_seenInches a_ways a_trial a_told_kind a_told_weight a_told_strength a_told_height a_told_folk a_told_mustBeAbove a_told_wind a_tower_order v_liftsMany v_seenMany v_told_storeys v_told_pairs v_told_bears v_told_soft v_told_cellars v_tower_many v_tower_day v_tower_order j61_v_trial v_told_weight v_told_folk v_told_kind v_told_mustBeAbove v_told_strength) → va_S A s.heap H locs → W p l e rm_X4_in s m args below meth c H locs 0 0 Q (F0 m 61 ls []) := by
    intro g61_x1 g61_x2 n_61
    induction n_61 with
    | zero =>
      intro j61_x3 j61_v_trial ls H locs hf hl hP hD hS
      exact False.elim hf
    | succ n_61 ih_61 =>
      have J_88 : ∀ (j88_x3 : Int32) (j88_k1 : Int32) (j88_v_trial : (Nat → Int32)) (ls : Array Slot) (H : Heap) (locs : List Loc), f_X4_in_88 v_told_storeys v_tower_many v_tower_order v_told_weight v_told_folk v_told_bears v_told_kind v_told_cellars v_told_mustBeAbove v_told_strength (mx_l2 (f_X4_in_61 v_told_storeys v_tower_many v_tower_order v_told_weight v_told_folk v_told_bears v_told_kind v_told_cellars v_told_mustBeAbove v_told_strength post g61_x1 g61_x2) n_61) post g61_x1 g61_x2 j88_x3 j88_k1 j88_v_trial → lv_has ls 4 [(0, .ref a_t), (1, .int g61_x1), (2, .int g61_x2), (3, .int j88_x3)] → va_P E.1 vwCl (w_X4_in E a_t a_text a_told a_reader a_tower a_kept a_isKept a_lifts a_seenAt a_seenInches a_ways a_trial a_told_kind a_told_weight a_told_strength a_told_height a_told_folk a_told_mustBeAbove a_told_wind a_tower_order v_liftsMany v_seenMany v_told_storeys v_told_pairs v_told_bears v_told_soft v_told_cellars v_tower_many v_tower_day v_tower_order j88_v_trial v_told_weight v_told_folk v_told_kind v_told_mustBeAbove v_told_strength) H → va_D A (w_X4_in E a_t a_text a_told a_reader a_tower a_kept a_isKept a_lifts a_seenAt a_seenInches a_ways a_trial a_told_kind a_told_weight a_told_strength a_told_height a_told_folk a_told_mustBeAbove a_told_wind a_tower_order v_liftsMany v_seenMany v_told_storeys v_told_pairs v_told_bears v_told_soft v_told_cellars v_tower_many v_tower_day v_tower_order j88_v_trial v_told_weight v_told_folk v_told_kind v_told_mustBeAbove v_told_strength) → va_S A s.heap H locs → W p l e rm_X4_in s m args below meth c H locs 0 0 Q (F0 m 88 ls [.int j88_k1, .ref a_trial]) := by
        intro j88_x3 j88_k1 j88_v_trial ls H locs hf hl hP hD hS
        refine lv_aload_n hx hb dX4_in_88 rfl (lv_at hl 0 rfl) ?_
        refine gf_X4_35 hB hP 0 rfl rfl dX4_in_89 ?_
        refine gf_X4_143 hB hP 2 rfl rfl dX4_in_92 ?_
        refine lv_iload_n hx hb dX4_in_95 rfl (lv_at hl 3 rfl) ?_
        obtain ⟨h_in, hf⟩ := hf
        refine va_iald hx hb hB.K hP 3 0 rfl rfl h_in dX4_in_96 ?_
        obtain ⟨h_in, hf⟩ := hf
        refine va_iast hx hb hB.K hP hD hS 4 0 rfl rfl h_in dX4_in_97 (fun H locs hP hD hS => ?_)
        have hP : va_P E.1 vwCl (w_X4_in E a_t a_text a_told a_reader a_tower a_kept a_isKept a_lifts a_seenAt a_seenInches a_ways a_trial a_told_kind a_told_weight a_told_strength a_told_height a_told_folk a_told_mustBeAbove a_told_wind a_tower_order v_liftsMany v_seenMany v_told_storeys v_told_pairs v_told_bears v_told_soft v_told_cellars v_tower_many v_tower_day v_tower_order (upd j88_v_trial j88_k1.toNatClampNeg (v_tower_order j88_x3.toNatClampNeg)) v_told_weight v_told_folk v_told_kind v_told_mustBeAbove v_told_strength) H := hP
        have hD : va_D A (w_X4_in E a_t a_text a_told a_reader a_tower a_kept a_isKept a_lifts a_seenAt a_seenInches a_ways a_trial a_told_kind a_told_weight a_told_strength a_told_height a_told_folk a_told_mustBeAbove a_told_wind a_tower_order v_liftsMany v_seenMany v_told_storeys v_told_pairs v_told_bears v_told_soft v_told_cellars v_tower_many v_tower_day v_tower_order (upd j88_v_trial j88_k1.toNatClampNeg (v_tower_order j88_x3.toNatClampNeg)) v_told_weight v_told_folk v_told_kind v_told_mustBeAbove v_told_strength) := hD
        refine lv_iinc (v := j88_x3 + 1) (lv' := [(3, .int (j88_x3 + 1)), (0, .ref a_t), (1, .int g61_x1), (2, .int g61_x2)]) hx hb dX4_in_98 hl (k := 3) rfl (by rw [kc_i_1]) (by decide) rfl (fun ls hl => ?_)
        refine lv_goto (tgt := 61) hx hb dX4_in_101 (by decide) ?_
        exact ih_61 (j88_x3 + 1) (upd j88_v_trial j88_k1.toNatClampNeg (v_tower_order j88_x3.toNatClampNeg)) ls H locs hf (lv_sub hl [1, 2, 3, 0] rfl) hP hD hS
      intro j61_x3 j61_v_trial ls H locs hf hl hP hD hS
      replace hf : f_X4_in_61 v_told_storeys v_tower_many v_tower_order v_told_weight v_told_folk v_told_bears v_told_kind v_told_cellars v_told_mustBeAbove v_told_strength post g61_x1 g61_x2 (mx_l2 (f_X4_in_61 v_told_storeys v_tower_many v_tower_order v_told_weight v_told_folk v_told_bears v_told_kind v_told_cellars v_told_mustBeAbove v_told_strength post g61_x1 g61_x2) n_61) j61_x3 j61_v_trial := hf
      refine lv_iload_n hx hb dX4_in_61 rfl (lv_at hl 3 rfl) ?_
      refine lv_aload_n hx hb dX4_in_62 rfl (lv_at hl 0 rfl) ?_
      refine gf_X4_35 hB hP 0 rfl rfl dX4_in_63 ?_
      refine gf_X4_140 hB hP 2 rfl rfl dX4_in_66 ?_
      refine lv_icmp_ge (tgt := 104) hx hb dX4_in_69 (by decide) (fun c69 => ?_) (fun c69 => ?_)
      · have hf := hf.1 c69
        exact J_104 g61_x1 g61_x2 j61_v_trial ls H locs hf (lv_sub hl [0, 1, 2] rfl) hP hD hS
      · have hf := hf.2 c69
        refine lv_aload_n hx hb dX4_in_72 rfl (lv_at hl 0 rfl) ?_
        refine gf_X4_60 hB hP 0 rfl rfl dX4_in_73 ?_
        refine lv_iload_n hx hb dX4_in_76 rfl (lv_at hl 3 rfl) ?_
        refine lv_iload_n hx hb dX4_in_77 rfl (lv_at hl 2 rfl) ?_
        refine lv_icmp_ge (tgt := 85) hx hb dX4_in_78 (by decide) (fun c78 => ?_) (fun c78 => ?_)
        · have hf := hf.1 c78
          refine lv_iload_n hx hb dX4_in_85 rfl (lv_at hl 3 rfl) ?_
          refine lv_iconst hx hb dX4_in_86 kc_i_1 ?_
          refine lv_iadd hx hb dX4_in_87 ?_
          exact J_88 j61_x3 (j61_x3 + 1) j61_v_trial ls H locs hf (lv_sub hl [0, 1, 2, 3] rfl) hP hD hS
        · have hf := hf.2 c78
          refine lv_iload_n hx hb dX4_in_81 rfl (lv_at hl 3 rfl) ?_
          refine lv_goto (tgt := 88) hx hb dX4_in_82 (by decide) ?_
          exact J_88 j61_x3 j61_x3 j61_v_trial ls H locs hf (lv_sub hl [0, 1, 2, 3] rfl) hP hD hS
  obtain ⟨H, locs, eH, eL⟩ : ∃ (H : Heap) (locs : List Loc), H = s.heap ∧ locs = [] := ⟨_, _, rfl, rfl⟩
  rw [← eH] at hP
  have hS : va_S A s.heap H locs := by rw [eH, eL]; exact hS
  show W p l e rm_X4_in s m args below meth c s.heap [] 0 0 Q (F0 m 0 ls [])
  rw [← eH, ← eL]
  refine lv_aload_n hx hb dX4_in_0 rfl (lv_at hl 0 rfl) ?_
  refine gf_X4_19 hB hP 0 rfl rfl dX4_in_1 ?_
  refine lv_iload_n hx hb dX4_in_4 rfl (lv_at hl 1 rfl) ?_
  refine mx_gi (mx_runN (As := [.int x1]) (rest := []) hB (c_X1_has l E a_told a_told_kind a_told_weight a_told_strength a_told_height a_told_folk a_told_mustBeAbove a_told_wind v_told_storeys v_told_pairs v_told_bears v_told_soft v_told_cellars x1 _ hf) sB_X1_has sV_X1_has wmn_X4_96 rfl (mx_ppV hB hP [1] rfl 1 rfl rfl rfl) hl.1 rfl (Nat.le_of_ble_eq_true rfl) dX4_in_5 ⟨Nat.zero_le _, Nat.zero_le _⟩) (fun r1 hf => ?_)
  refine lv_if_ne (tgt := 14) hx hb dX4_in_8 (by decide) (fun c8 => ?_) (fun c8 => ?_)
  · have hf := hf.1 c8
    refine lv_iload_n hx hb dX4_in_14 rfl (lv_at hl 2 rfl) ?_
    refine lv_if_lt (tgt := 29) hx hb dX4_in_15 (by decide) (fun c15 => ?_) (fun c15 => ?_)
    · have hf := hf.1 c15
      refine lv_bipush hx hb dX4_in_29 kc_b_m3 ?_
      exact hRet (-3) v_trial 31 ls H locs dX4_in_31 hf hP hS
    · have hf := hf.2 c15
      refine lv_iload_n hx hb dX4_in_18 rfl (lv_at hl 2 rfl) ?_
      refine lv_aload_n hx hb dX4_in_19 rfl (lv_at hl 0 rfl) ?_
      refine gf_X4_35 hB hP 0 rfl rfl dX4_in_20 ?_
      refine gf_X4_140 hB hP 2 rfl rfl dX4_in_23 ?_
      refine lv_icmp_le (tgt := 32) hx hb dX4_in_26 (by decide) (fun c26 => ?_) (fun c26 => ?_)
      · have hf := hf.1 c26
        refine lv_aload_n hx hb dX4_in_32 rfl (lv_at hl 0 rfl) ?_
        refine gf_X4_35 hB hP 0 rfl rfl dX4_in_33 ?_
        refine lv_iload_n hx hb dX4_in_36 rfl (lv_at hl 1 rfl) ?_
        refine mx_gi (mx_runN (As := [.int x1]) (rest := []) hB (c_X3_placeOf l E a_tower a_tower_order v_tower_many v_tower_day v_tower_order x1 _ hf) sB_X3_placeOf sV_X3_placeOf wmn_X4_146 rfl (mx_ppV hB hP [2, 3] rfl 3 rfl rfl rfl) hl.1 rfl (Nat.le_of_ble_eq_true rfl) dX4_in_37 ⟨Nat.zero_le _, Nat.zero_le _⟩) (fun r2 hf => ?_)
        refine lv_iconst hx hb dX4_in_40 kc_i_m1 ?_
        refine lv_icmp_ne (tgt := 56) hx hb dX4_in_41 (by decide) (fun c41 => ?_) (fun c41 => ?_)
        · have hf := hf.1 c41
          refine lv_bipush hx hb dX4_in_56 kc_b_m4 ?_
          exact hRet (-4) v_trial 58 ls H locs dX4_in_58 hf hP hS
        · have hf := hf.2 c41
          refine lv_aload_n hx hb dX4_in_44 rfl (lv_at hl 0 rfl) ?_
          refine gf_X4_35 hB hP 0 rfl rfl dX4_in_45 ?_
          refine gf_X4_140 hB hP 2 rfl rfl dX4_in_48 ?_
          refine lv_bipush hx hb dX4_in_51 kc_b_8 ?_
          refine lv_icmp_lt (tgt := 59) hx hb dX4_in_53 (by decide) (fun c53 => ?_) (fun c53 => ?_)
          · have hf := hf.1 c53
            refine lv_iconst hx hb dX4_in_59 kc_i_0 ?_
            refine lv_istore_n (lv' := [(3, .int 0), (0, .ref a_t), (1, .int x1), (2, .int x2)]) hx hb dX4_in_60 rfl hl (by decide) rfl (fun ls hl => ?_)
            obtain ⟨n9, hf⟩ := hf
            exact L_61 x1 x2 n9 0 v_trial ls H locs hf (lv_sub hl [1, 2, 3, 0] rfl) hP hD hS
          · have hf := hf.2 c53
            refine lv_bipush hx hb dX4_in_56 kc_b_m4 ?_
            exact hRet (-4) v_trial 58 ls H locs dX4_in_58 hf hP hS
      · have hf := hf.2 c26
        refine lv_bipush hx hb dX4_in_29 kc_b_m3 ?_
        exact hRet (-3) v_trial 31 ls H locs dX4_in_31 hf hP hS
  · have hf := hf.2 c8
    refine lv_bipush hx hb dX4_in_11 kc_b_m2 ?_
    exact hRet (-2) v_trial 13 ls H locs dX4_in_13 hf hP hS
theorem c_X4_in (l : Launch) (E : mx_E) (a_t : Nat) (a_text : Nat) (a_told : Nat) (a_reader : Nat) (a_tower : Nat) (a_kept : Nat) (a_isKept : Nat) (a_lifts : Nat) (a_seenAt : Nat) (a_seenInches : Nat) (a_ways : Nat) (a_trial : Nat) (a_told_kind : Nat) (a_told_weight : Nat) (a_told_strength : Nat) (a_told_height : Nat) (a_told_folk : Nat) (a_told_mustBeAbove : Nat) (a_told_wind : Nat) (a_tower_order : Nat) (v_liftsMany : Int32) (v_seenMany : Int32) (v_told_storeys : Int32) (v_told_pairs : Int32) (v_told_bears : Int32) (v_told_soft : Int32) (v_told_cellars : Int32) (v_tower_many : Int32) (v_tower_day : Int32) (v_tower_order : (Nat → Int32)) (v_trial : (Nat → Int32)) (v_told_weight : (Nat → Int32)) (v_told_folk : (Nat → Int32)) (v_told_kind : (Nat → Int32)) (v_told_mustBeAbove : (Nat → Int32)) (v_told_strength : (Nat → Int32)) (sz : Nat) (x1 : Int32) (x2 : Int32) (post : Int32 → (Nat → Int32) → Prop) (hf : f_X4_in v_told_storeys v_tower_many v_tower_order v_told_weight v_told_folk v_told_bears v_told_kind v_told_cellars v_told_mustBeAbove v_told_strength v_trial x1 x2 post) : Met l yX4_in (Cond.code yX4_in cX4_in 4 (some .int) :: mx_WS) rm_X4_in (va_Pc [.ref a_t, .int x1, .int x2] (mx_Pw E (w_X4_in E a_t a_text a_told a_reader a_tower a_kept a_isKept a_lifts a_seenAt a_seenInches a_ways a_trial a_told_kind a_told_weight a_told_strength a_told_height a_told_folk a_told_mustBeAbove a_told_wind a_tower_order v_liftsMany v_seenMany v_told_storeys v_told_pairs v_told_bears v_told_soft v_told_cellars v_tower_many v_tower_day v_tower_order v_trial v_told_weight v_told_folk v_told_kind v_told_mustBeAbove v_told_strength) sz)) (va_Qi (fun (v : Int32) (u : (Nat → Int32)) => post v u) (fun u t => va_P E.1 vwCl (w_X4_in E a_t a_text a_told a_reader a_tower a_kept a_isKept a_lifts a_seenAt a_seenInches a_ways a_trial a_told_kind a_told_weight a_told_strength a_told_height a_told_folk a_told_mustBeAbove a_told_wind a_tower_order v_liftsMany v_seenMany v_told_storeys v_told_pairs v_told_bears v_told_soft v_told_cellars v_tower_many v_tower_day v_tower_order u v_told_weight v_told_folk v_told_kind v_told_mustBeAbove v_told_strength) t.heap) (va_A (w_X4_in E a_t a_text a_told a_reader a_tower a_kept a_isKept a_lifts a_seenAt a_seenInches a_ways a_trial a_told_kind a_told_weight a_told_strength a_told_height a_told_folk a_told_mustBeAbove a_told_wind a_tower_order v_liftsMany v_seenMany v_told_storeys v_told_pairs v_told_bears v_told_soft v_told_cellars v_tower_many v_tower_day v_tower_order v_trial v_told_weight v_told_folk v_told_kind v_told_mustBeAbove v_told_strength) sz)) 0 0 (va_A (w_X4_in E a_t a_text a_told a_reader a_tower a_kept a_isKept a_lifts a_seenAt a_seenInches a_ways a_trial a_told_kind a_told_weight a_told_strength a_told_height a_told_folk a_told_mustBeAbove a_told_wind a_tower_order v_liftsMany v_seenMany v_told_storeys v_told_pairs v_told_bears v_told_soft v_told_cellars v_tower_many v_tower_day v_tower_order v_trial v_told_weight v_told_folk v_told_kind v_told_mustBeAbove v_told_strength) sz) :=
  mx_metWi (by decide) rfl rfl (fun hB hP hD hA hRet ls hl => b_X4_in E a_t a_text a_told a_reader a_tower a_kept a_isKept a_lifts a_seenAt a_seenInches a_ways a_trial a_told_kind a_told_weight a_told_strength a_told_height a_told_folk a_told_mustBeAbove a_told_wind a_tower_order v_liftsMany v_seenMany v_told_storeys v_told_pairs v_told_bears v_told_soft v_told_cellars v_tower_many v_tower_day v_tower_order v_trial v_told_weight v_told_folk v_told_kind v_told_mustBeAbove v_told_strength x1 x2 post hB hP hD hA hRet hf ls hl)
def rm_X4_row : Room := { frames := 1, cells := 0, slots := 0, locals := 21 }
set_option maxHeartbeats 4000000 in
set_option maxRecDepth 100000 in
theorem b_X4_row {p : Program} {l : Launch} {e : Env} {s : State} {m : MethodId} {args : Array Value} {below : List Frame} {meth : Method} {c : Code} {Q : State → Prop} {A : Nat → Prop} (E : mx_E) (a_t : Nat) (a_text : Nat) (a_told : Nat) (a_reader : Nat) (a_tower : Nat) (a_kept : Nat) (a_isKept : Nat) (a_lifts : Nat) (a_seenAt : Nat) (a_seenInches : Nat) (a_ways : Nat) (a_trial : Nat) (a_told_kind : Nat) (a_told_weight : Nat) (a_told_strength : Nat) (a_told_height : Nat) (a_told_folk : Nat) (a_told_mustBeAbove : Nat) (a_told_wind : Nat) (v_liftsMany : Int32) (v_seenMany : Int32) (v_told_storeys : Int32) (v_told_pairs : Int32) (v_told_bears : Int32) (v_told_soft : Int32) (v_told_cellars : Int32) (v_lifts : (Nat → Int32)) (x1 : Int32) (post : Int32 → (Nat → Int32) → Int32 → Prop) (hB : mx_B p m c cX4_row 2 s args RX4 E) (hP : va_P E.1 vwCl (w_X4_row E a_t a_text a_told a_reader a_tower a_kept a_isKept a_lifts a_seenAt a_seenInches a_ways a_trial a_told_kind a_told_weight a_told_strength a_told_height a_told_folk a_told_mustBeAbove a_told_wind v_liftsMany v_seenMany v_told_storeys v_told_pairs v_told_bears v_told_soft v_told_cellars v_lifts) s.heap) (hD : va_D A (w_X4_row E a_t a_text a_told a_reader a_tower a_kept a_isKept a_lifts a_seenAt a_seenInches a_ways a_trial a_told_kind a_told_weight a_told_strength a_told_height a_told_folk a_told_mustBeAbove a_told_wind v_liftsMany v_seenMany v_told_storeys v_told_pairs v_told_bears v_told_soft v_told_cellars v_lifts)) (hA : ∀ q : Nat, s.heap.size ≤ q → A q) (hRet : ∀ (v : Int32) (u : (Nat → Int32) × Int32) (pc : Nat) (ls : Array Slot) (H : Heap) (locs : List Loc), decode cX4_row pc = .ok (.ireturn, 1) → post v u.1 u.2 → va_P E.1 vwCl (w_X4_row E a_t a_text a_told a_reader a_tower a_kept a_isKept a_lifts a_seenAt a_seenInches a_ways a_trial a_told_kind a_told_weight a_told_strength a_told_height a_told_folk a_told_mustBeAbove a_told_wind u.2 v_seenMany v_told_storeys v_told_pairs v_told_bears v_told_soft v_told_cellars u.1) H → va_S A s.heap H locs → W p l e rm_X4_row s m args below meth c H locs 0 0 Q (F0 m pc ls [.int v])) (hf : f_X4_row v_told_storeys v_lifts v_liftsMany x1 post) (ls : Array Slot) (hl : lv_has ls 2 [(0, .ref a_t), (1, .int x1)]) : W p l e rm_X4_row s m args below meth c s.heap [] 0 0 Q (F0 m 0 ls []) := by
  have hx := hB.x
  have hb := hB.b
  have hS : va_S A s.heap s.heap [] := va_S.rf
  obtain ⟨H, locs, eH, eL⟩ : ∃ (H : Heap) (locs : List Loc), H = s.heap ∧ locs = [] := ⟨_, _, rfl, rfl⟩
  rw [← eH] at hP
  have hS : va_S A s.heap H locs := by rw [eH, eL]; exact hS
  show W p l e rm_X4_row s m args below meth c s.heap [] 0 0 Q (F0 m 0 ls [])
  rw [← eH, ← eL]
  refine lv_aload_n hx hb dX4_row_0 rfl (lv_at hl 0 rfl) ?_
  refine gf_X4_19 hB hP 0 rfl rfl dX4_row_1 ?_
  refine lv_iload_n hx hb dX4_row_4 rfl (lv_at hl 1 rfl) ?_
  refine mx_gi (mx_runN (As := [.int x1]) (rest := []) hB (c_X1_has l E a_told a_told_kind a_told_weight a_told_strength a_told_height a_told_folk a_told_mustBeAbove a_told_wind v_told_storeys v_told_pairs v_told_bears v_told_soft v_told_cellars x1 _ hf) sB_X1_has sV_X1_has wmn_X4_96 rfl (mx_ppV hB hP [1] rfl 1 rfl rfl rfl) hl.1 rfl (Nat.le_of_ble_eq_true rfl) dX4_row_5 ⟨Nat.zero_le _, Nat.zero_le _⟩) (fun r1 hf => ?_)
  refine lv_if_ne (tgt := 14) hx hb dX4_row_8 (by decide) (fun c8 => ?_) (fun c8 => ?_)
  · have hf := hf.1 c8
    refine lv_aload_n hx hb dX4_row_14 rfl (lv_at hl 0 rfl) ?_
    refine gf_X4_87 hB hP 0 rfl rfl dX4_row_15 ?_
    refine lv_bipush hx hb dX4_row_18 kc_b_8 ?_
    refine lv_icmp_lt (tgt := 26) hx hb dX4_row_20 (by decide) (fun c20 => ?_) (fun c20 => ?_)
    · have hf := hf.1 c20
      refine lv_aload_n hx hb dX4_row_26 rfl (lv_at hl 0 rfl) ?_
      refine gf_X4_47 hB hP 0 rfl rfl dX4_row_27 ?_
      refine lv_aload_n hx hb dX4_row_30 rfl (lv_at hl 0 rfl) ?_
      refine gf_X4_87 hB hP 0 rfl rfl dX4_row_31 ?_
      refine lv_iload_n hx hb dX4_row_34 rfl (lv_at hl 1 rfl) ?_
      obtain ⟨h_in, hf⟩ := hf
      refine va_iast hx hb hB.K hP hD hS 2 0 rfl rfl h_in dX4_row_35 (fun H locs hP hD hS => ?_)
      have hP : va_P E.1 vwCl (w_X4_row E a_t a_text a_told a_reader a_tower a_kept a_isKept a_lifts a_seenAt a_seenInches a_ways a_trial a_told_kind a_told_weight a_told_strength a_told_height a_told_folk a_told_mustBeAbove a_told_wind v_liftsMany v_seenMany v_told_storeys v_told_pairs v_told_bears v_told_soft v_told_cellars (upd v_lifts v_liftsMany.toNatClampNeg x1)) H := hP
      have hD : va_D A (w_X4_row E a_t a_text a_told a_reader a_tower a_kept a_isKept a_lifts a_seenAt a_seenInches a_ways a_trial a_told_kind a_told_weight a_told_strength a_told_height a_told_folk a_told_mustBeAbove a_told_wind v_liftsMany v_seenMany v_told_storeys v_told_pairs v_told_bears v_told_soft v_told_cellars (upd v_lifts v_liftsMany.toNatClampNeg x1)) := hD
      refine lv_aload_n hx hb dX4_row_36 rfl (lv_at hl 0 rfl) ?_
      refine lv_dup hx hb dX4_row_37 rfl ?_
      refine gf_X4_87 hB hP 0 rfl rfl dX4_row_38 ?_
      refine lv_iconst hx hb dX4_row_41 kc_i_1 ?_
      refine lv_iadd hx hb dX4_row_42 ?_
      refine pf_X4_87 hB hP hD hS 0 rfl (Nat.le_of_ble_eq_true rfl) dX4_row_43 (w_X4_row E a_t a_text a_told a_reader a_tower a_kept a_isKept a_lifts a_seenAt a_seenInches a_ways a_trial a_told_kind a_told_weight a_told_strength a_told_height a_told_folk a_told_mustBeAbove a_told_wind (v_liftsMany + 1) v_seenMany v_told_storeys v_told_pairs v_told_bears v_told_soft v_told_cellars (upd v_lifts v_liftsMany.toNatClampNeg x1)) rfl (fun H locs hP hD hS => ?_)
      refine lv_aload_n hx hb dX4_row_46 rfl (lv_at hl 0 rfl) ?_
      refine gf_X4_87 hB hP 0 rfl rfl dX4_row_47 ?_
      exact hRet (v_liftsMany + 1) (upd v_lifts v_liftsMany.toNatClampNeg x1, v_liftsMany + 1) 50 ls H locs dX4_row_50 hf hP hS
    · have hf := hf.2 c20
      refine lv_bipush hx hb dX4_row_23 kc_b_m5 ?_
      exact hRet (-5) (v_lifts, v_liftsMany) 25 ls H locs dX4_row_25 hf hP hS
  · have hf := hf.2 c8
    refine lv_bipush hx hb dX4_row_11 kc_b_m2 ?_
    exact hRet (-2) (v_lifts, v_liftsMany) 13 ls H locs dX4_row_13 hf hP hS
theorem c_X4_row (l : Launch) (E : mx_E) (a_t : Nat) (a_text : Nat) (a_told : Nat) (a_reader : Nat) (a_tower : Nat) (a_kept : Nat) (a_isKept : Nat) (a_lifts : Nat) (a_seenAt : Nat) (a_seenInches : Nat) (a_ways : Nat) (a_trial : Nat) (a_told_kind : Nat) (a_told_weight : Nat) (a_told_strength : Nat) (a_told_height : Nat) (a_told_folk : Nat) (a_told_mustBeAbove : Nat) (a_told_wind : Nat) (v_liftsMany : Int32) (v_seenMany : Int32) (v_told_storeys : Int32) (v_told_pairs : Int32) (v_told_bears : Int32) (v_told_soft : Int32) (v_told_cellars : Int32) (v_lifts : (Nat → Int32)) (sz : Nat) (x1 : Int32) (post : Int32 → (Nat → Int32) → Int32 → Prop) (hf : f_X4_row v_told_storeys v_lifts v_liftsMany x1 post) : Met l yX4_row (Cond.code yX4_row cX4_row 2 (some .int) :: mx_WS) rm_X4_row (va_Pc [.ref a_t, .int x1] (mx_Pw E (w_X4_row E a_t a_text a_told a_reader a_tower a_kept a_isKept a_lifts a_seenAt a_seenInches a_ways a_trial a_told_kind a_told_weight a_told_strength a_told_height a_told_folk a_told_mustBeAbove a_told_wind v_liftsMany v_seenMany v_told_storeys v_told_pairs v_told_bears v_told_soft v_told_cellars v_lifts) sz)) (va_Qi (fun (v : Int32) (u : (Nat → Int32) × Int32) => post v u.1 u.2) (fun u t => va_P E.1 vwCl (w_X4_row E a_t a_text a_told a_reader a_tower a_kept a_isKept a_lifts a_seenAt a_seenInches a_ways a_trial a_told_kind a_told_weight a_told_strength a_told_height a_told_folk a_told_mustBeAbove a_told_wind u.2 v_seenMany v_told_storeys v_told_pairs v_told_bears v_told_soft v_told_cellars u.1) t.heap) (va_A (w_X4_row E a_t a_text a_told a_reader a_tower a_kept a_isKept a_lifts a_seenAt a_seenInches a_ways a_trial a_told_kind a_told_weight a_told_strength a_told_height a_told_folk a_told_mustBeAbove a_told_wind v_liftsMany v_seenMany v_told_storeys v_told_pairs v_told_bears v_told_soft v_told_cellars v_lifts) sz)) 0 0 (va_A (w_X4_row E a_t a_text a_told a_reader a_tower a_kept a_isKept a_lifts a_seenAt a_seenInches a_ways a_trial a_told_kind a_told_weight a_told_strength a_told_height a_told_folk a_told_mustBeAbove a_told_wind v_liftsMany v_seenMany v_told_storeys v_told_pairs v_told_bears v_told_soft v_told_cellars v_lifts) sz) :=
  mx_metWi (by decide) rfl rfl (fun hB hP hD hA hRet ls hl => b_X4_row E a_t a_text a_told a_reader a_tower a_kept a_isKept a_lifts a_seenAt a_seenInches a_ways a_trial a_told_kind a_told_weight a_told_strength a_told_height a_told_folk a_told_mustBeAbove a_told_wind v_liftsMany v_seenMany v_told_storeys v_told_pairs v_told_bears v_told_soft v_told_cellars v_lifts x1 post hB hP hD hA hRet hf ls hl)
def rm_X4_burn : Room := { frames := 0, cells := 0, slots := 0, locals := 0 }
set_option maxHeartbeats 4000000 in
set_option maxRecDepth 100000 in
theorem b_X4_burn {p : Program} {l : Launch} {e : Env} {s : State} {m : MethodId} {args : Array Value} {below : List Frame} {meth : Method} {c : Code} {Q : State → Prop} {A : Nat → Prop} (E : mx_E) (a_t : Nat) (a_text : Nat) (a_told : Nat) (a_reader : Nat) (a_tower : Nat) (a_kept : Nat) (a_isKept : Nat) (a_lifts : Nat) (a_seenAt : Nat) (a_seenInches : Nat) (a_ways : Nat) (a_trial : Nat) (v_liftsMany : Int32) (v_seenMany : Int32)  (post : Int32 → Int32 → Prop) (hB : mx_B p m c cX4_burn 2 s args RX4 E) (hP : va_P E.1 vwCl (w_X4_burn E a_t a_text a_told a_reader a_tower a_kept a_isKept a_lifts a_seenAt a_seenInches a_ways a_trial v_liftsMany v_seenMany) s.heap) (hD : va_D A (w_X4_burn E a_t a_text a_told a_reader a_tower a_kept a_isKept a_lifts a_seenAt a_seenInches a_ways a_trial v_liftsMany v_seenMany)) (hA : ∀ q : Nat, s.heap.size ≤ q → A q) (hRet : ∀ (v : Int32) (u : Int32) (pc : Nat) (ls : Array Slot) (H : Heap) (locs : List Loc), decode cX4_burn pc = .ok (.ireturn, 1) → post v u → va_P E.1 vwCl (w_X4_burn E a_t a_text a_told a_reader a_tower a_kept a_isKept a_lifts a_seenAt a_seenInches a_ways a_trial u v_seenMany) H → va_S A s.heap H locs → W p l e rm_X4_burn s m args below meth c H locs 0 0 Q (F0 m pc ls [.int v])) (hf : f_X4_burn v_liftsMany post) (ls : Array Slot) (hl : lv_has ls 2 [(0, .ref a_t)]) : W p l e rm_X4_burn s m args below meth c s.heap [] 0 0 Q (F0 m 0 ls []) := by
  have hx := hB.x
  have hb := hB.b
  have hS : va_S A s.heap s.heap [] := va_S.rf
  obtain ⟨H, locs, eH, eL⟩ : ∃ (H : Heap) (locs : List Loc), H = s.heap ∧ locs = [] := ⟨_, _, rfl, rfl⟩
  rw [← eH] at hP
  have hS : va_S A s.heap H locs := by rw [eH, eL]; exact hS
  show W p l e rm_X4_burn s m args below meth c s.heap [] 0 0 Q (F0 m 0 ls [])
  rw [← eH, ← eL]
  refine lv_aload_n hx hb dX4_burn_0 rfl (lv_at hl 0 rfl) ?_
  refine gf_X4_87 hB hP 0 rfl rfl dX4_burn_1 ?_
  refine lv_istore_n (lv' := [(1, .int v_liftsMany), (0, .ref a_t)]) hx hb dX4_burn_4 rfl hl (by decide) rfl (fun ls hl => ?_)
  refine lv_aload_n hx hb dX4_burn_5 rfl (lv_at hl 1 rfl) ?_
  refine lv_iconst hx hb dX4_burn_6 kc_i_0 ?_
  refine pf_X4_87 hB hP hD hS 0 rfl (Nat.le_of_ble_eq_true rfl) dX4_burn_7 (w_X4_burn E a_t a_text a_told a_reader a_tower a_kept a_isKept a_lifts a_seenAt a_seenInches a_ways a_trial 0 v_seenMany) rfl (fun H locs hP hD hS => ?_)
  refine lv_iload_n hx hb dX4_burn_10 rfl (lv_at hl 0 rfl) ?_
  exact hRet v_liftsMany 0 11 ls H locs dX4_burn_11 hf hP hS
theorem c_X4_burn (l : Launch) (E : mx_E) (a_t : Nat) (a_text : Nat) (a_told : Nat) (a_reader : Nat) (a_tower : Nat) (a_kept : Nat) (a_isKept : Nat) (a_lifts : Nat) (a_seenAt : Nat) (a_seenInches : Nat) (a_ways : Nat) (a_trial : Nat) (v_liftsMany : Int32) (v_seenMany : Int32) (sz : Nat)  (post : Int32 → Int32 → Prop) (hf : f_X4_burn v_liftsMany post) : Met l yX4_burn (Cond.code yX4_burn cX4_burn 2 (some .int) :: mx_WS) rm_X4_burn (va_Pc [.ref a_t] (mx_Pw E (w_X4_burn E a_t a_text a_told a_reader a_tower a_kept a_isKept a_lifts a_seenAt a_seenInches a_ways a_trial v_liftsMany v_seenMany) sz)) (va_Qi (fun (v : Int32) (u : Int32) => post v u) (fun u t => va_P E.1 vwCl (w_X4_burn E a_t a_text a_told a_reader a_tower a_kept a_isKept a_lifts a_seenAt a_seenInches a_ways a_trial u v_seenMany) t.heap) (va_A (w_X4_burn E a_t a_text a_told a_reader a_tower a_kept a_isKept a_lifts a_seenAt a_seenInches a_ways a_trial v_liftsMany v_seenMany) sz)) 0 0 (va_A (w_X4_burn E a_t a_text a_told a_reader a_tower a_kept a_isKept a_lifts a_seenAt a_seenInches a_ways a_trial v_liftsMany v_seenMany) sz) :=
  mx_metWi (by decide) rfl rfl (fun hB hP hD hA hRet ls hl => b_X4_burn E a_t a_text a_told a_reader a_tower a_kept a_isKept a_lifts a_seenAt a_seenInches a_ways a_trial v_liftsMany v_seenMany  post hB hP hD hA hRet hf ls hl)
def rm_X4_judge : Room := { frames := 4, cells := 0, slots := 0, locals := 90 }
set_option maxHeartbeats 4000000 in
set_option maxRecDepth 100000 in
theorem b_X4_judge {p : Program} {l : Launch} {e : Env} {s : State} {m : MethodId} {args : Array Value} {below : List Frame} {meth : Method} {c : Code} {Q : State → Prop} (E : mx_E) (a_t : Nat) (a_text : Nat) (a_told : Nat) (a_reader : Nat) (a_tower : Nat) (a_kept : Nat) (a_isKept : Nat) (a_lifts : Nat) (a_seenAt : Nat) (a_seenInches : Nat) (a_ways : Nat) (a_trial : Nat) (a_told_kind : Nat) (a_told_weight : Nat) (a_told_strength : Nat) (a_told_height : Nat) (a_told_folk : Nat) (a_told_mustBeAbove : Nat) (a_told_wind : Nat) (v_liftsMany : Int32) (v_seenMany : Int32) (v_lifts : (Nat → Int32)) (v_told_storeys : Int32) (v_told_pairs : Int32) (v_told_bears : Int32) (v_told_soft : Int32) (v_told_cellars : Int32) (v_told_weight : (Nat → Int32)) (v_told_folk : (Nat → Int32)) (v_told_kind : (Nat → Int32)) (v_told_mustBeAbove : (Nat → Int32)) (v_told_strength : (Nat → Int32)) (v_told_wind : (Nat → Int32)) (x1 : Int32) (post : Int32 → Prop) (hB : mx_B p m c cX4_judge 5 s args RX4 E) (hP : va_P E.1 vwCl (w_X4_judge E a_t a_text a_told a_reader a_tower a_kept a_isKept a_lifts a_seenAt a_seenInches a_ways a_trial a_told_kind a_told_weight a_told_strength a_told_height a_told_folk a_told_mustBeAbove a_told_wind v_liftsMany v_seenMany v_lifts v_told_storeys v_told_pairs v_told_bears v_told_soft v_told_cellars v_told_weight v_told_folk v_told_kind v_told_mustBeAbove v_told_strength v_told_wind) s.heap) (hRet : ∀ (v : Int32) (pc : Nat) (ls : Array Slot), decode cX4_judge pc = .ok (.ireturn, 1) → post v → W p l e rm_X4_judge s m args below meth c s.heap [] 0 0 Q (F0 m pc ls [.int v])) (hf : f_X4_judge v_liftsMany v_lifts v_told_storeys v_told_weight v_told_folk v_told_bears v_told_kind v_told_cellars v_told_mustBeAbove v_told_strength v_told_wind x1 post) (ls : Array Slot) (hl : lv_has ls 5 [(0, .ref a_t), (1, .int x1)]) : W p l e rm_X4_judge s m args below meth c s.heap [] 0 0 Q (F0 m 0 ls []) := by
  have hx := hB.x
  have hb := hB.b
  have J_74 : ∀ (j74_x1 : Int32) (ls : Array Slot), f_X4_judge_74 v_liftsMany v_lifts v_told_storeys v_told_weight v_told_folk v_told_bears v_told_kind v_told_cellars v_told_mustBeAbove v_told_strength v_told_wind post j74_x1 → lv_has ls 5 [(1, .int j74_x1)] → W p l e rm_X4_judge s m args below meth c s.heap [] 0 0 Q (F0 m 74 ls []) := by
    intro j74_x1 ls hf hl
    refine lv_iload_n hx hb dX4_judge_74 rfl (lv_at hl 0 rfl) ?_
    refine lv_if_ne (tgt := 82) hx hb dX4_judge_75 (by decide) (fun c75 => ?_) (fun c75 => ?_)
    · have hf := hf.1 c75
      refine lv_iconst hx hb dX4_judge_82 kc_i_0 ?_
      exact hRet 0 83 ls dX4_judge_83 hf
    · have hf := hf.2 c75
      refine lv_iconst hx hb dX4_judge_78 kc_i_m1 ?_
      refine lv_goto (tgt := 83) hx hb dX4_judge_79 (by decide) ?_
      exact hRet (-1) 83 ls dX4_judge_83 hf
  have J_46 : ∀ (j46_x1 : Int32) (j46_x3 : Int32) (j46_x4 : Int32) (ls : Array Slot), f_X4_judge_46 v_liftsMany v_lifts v_told_storeys v_told_weight v_told_folk v_told_bears v_told_kind v_told_cellars v_told_mustBeAbove v_told_strength v_told_wind post j46_x1 j46_x3 j46_x4 → lv_has ls 5 [(1, .int j46_x1), (3, .int j46_x3), (4, .int j46_x4)] → W p l e rm_X4_judge s m args below meth c s.heap [] 0 0 Q (F0 m 46 ls []) := by
    intro j46_x1 j46_x3 j46_x4 ls hf hl
    refine lv_iload_n hx hb dX4_judge_46 rfl (lv_at hl 0 rfl) ?_
    refine lv_if_ne (tgt := 54) hx hb dX4_judge_47 (by decide) (fun c47 => ?_) (fun c47 => ?_)
    · have hf := hf.1 c47
      refine lv_iload hx hb dX4_judge_54 (lv_at hl 2 rfl) ?_
      exact hRet j46_x4 56 ls dX4_judge_56 hf
    · have hf := hf.2 c47
      refine lv_iload_n hx hb dX4_judge_50 rfl (lv_at hl 1 rfl) ?_
      refine lv_goto (tgt := 56) hx hb dX4_judge_51 (by decide) ?_
      exact hRet j46_x3 56 ls dX4_judge_56 hf
  have L_16 : ∀ (g16_x1 : Int32) (n : Nat) (j16_x2 : Int32) (j16_x3 : Int32) (ls : Array Slot), mx_l2 (f_X4_judge_16 v_liftsMany v_lifts v_told_storeys v_told_weight v_told_folk v_told_bears v_told_kind v_told_cellars v_told_mustBeAbove v_told_strength v_told_wind post g16_x1) n j16_x2 j16_x3 → lv_has ls 5 [(0, .ref a_t), (1, .int g16_x1), (2, .int j16_x2), (3, .int j16_x3)] → W p l e rm_X4_judge s m args below meth c s.heap [] 0 0 Q (F0 m 16 ls []) := by
    intro g16_x1 n_16
    induction n_16 with
    | zero =>
      intro j16_x2 j16_x3 ls hf hl
      exact False.elim hf
    | succ n_16 ih_16 =>
      intro j16_x2 j16_x3 ls hf hl
      replace hf : f_X4_judge_16 v_liftsMany v_lifts v_told_storeys v_told_weight v_told_folk v_told_bears v_told_kind v_told_cellars v_told_mustBeAbove v_told_strength v_told_wind post g16_x1 (mx_l2 (f_X4_judge_16 v_liftsMany v_lifts v_told_storeys v_told_weight v_told_folk v_told_bears v_told_kind v_told_cellars v_told_mustBeAbove v_told_strength v_told_wind post g16_x1) n_16) j16_x2 j16_x3 := hf
      refine lv_iload_n hx hb dX4_judge_16 rfl (lv_at hl 3 rfl) ?_
      refine lv_aload_n hx hb dX4_judge_17 rfl (lv_at hl 0 rfl) ?_
      refine gf_X4_87 hB hP 0 rfl rfl dX4_judge_18 ?_
      refine lv_icmp_ge (tgt := 74) hx hb dX4_judge_21 (by decide) (fun c21 => ?_) (fun c21 => ?_)
      · have hf := hf.1 c21
        exact J_74 g16_x1 ls hf (lv_sub hl [1] rfl)
      · have hf := hf.2 c21
        refine lv_aload_n hx hb dX4_judge_24 rfl (lv_at hl 0 rfl) ?_
        refine gf_X4_19 hB hP 0 rfl rfl dX4_judge_25 ?_
        refine lv_iload_n hx hb dX4_judge_28 rfl (lv_at hl 3 rfl) ?_
        refine lv_aload_n hx hb dX4_judge_29 rfl (lv_at hl 0 rfl) ?_
        refine gf_X4_47 hB hP 0 rfl rfl dX4_judge_30 ?_
        refine lv_iload_n hx hb dX4_judge_33 rfl (lv_at hl 3 rfl) ?_
        obtain ⟨h_in, hf⟩ := hf
        refine va_iald hx hb hB.K hP 1 0 rfl rfl h_in dX4_judge_34 ?_
        refine lv_iload_n hx hb dX4_judge_35 rfl (lv_at hl 2 rfl) ?_
        refine mx_gi (mx_runN (As := [.int j16_x3, .int (v_lifts j16_x3.toNatClampNeg), .int j16_x2]) (rest := []) hB (c_X1_whyNotOn l E a_told a_told_kind a_told_weight a_told_strength a_told_height a_told_folk a_told_mustBeAbove a_told_wind v_told_storeys v_told_pairs v_told_bears v_told_soft v_told_cellars v_told_weight v_told_folk v_told_kind v_told_mustBeAbove v_told_strength v_told_wind j16_x3 (v_lifts j16_x3.toNatClampNeg) j16_x2 _ hf) sB_X1_whyNotOn sV_X1_whyNotOn wmn_X4_133 rfl (mx_ppV hB hP [2, 3, 4, 5, 6, 7, 8] rfl 1 rfl rfl rfl) hl.1 rfl (Nat.le_of_ble_eq_true rfl) dX4_judge_36 ⟨Nat.zero_le _, Nat.zero_le _⟩) (fun r1 hf => ?_)
        refine lv_istore (lv' := [(4, .int r1), (0, .ref a_t), (1, .int g16_x1), (2, .int j16_x2), (3, .int j16_x3)]) hx hb dX4_judge_39 hl (by decide) rfl (fun ls hl => ?_)
        refine lv_iload hx hb dX4_judge_41 (lv_at hl 0 rfl) ?_
        refine lv_if_eq (tgt := 57) hx hb dX4_judge_43 (by decide) (fun c43 => ?_) (fun c43 => ?_)
        · have hf := hf.1 c43
          refine lv_iload_n hx hb dX4_judge_57 rfl (lv_at hl 3 rfl) ?_
          refine lv_iconst hx hb dX4_judge_58 kc_i_1 ?_
          refine lv_aload_n hx hb dX4_judge_59 rfl (lv_at hl 1 rfl) ?_
          refine gf_X4_47 hB hP 0 rfl rfl dX4_judge_60 ?_
          refine lv_iload_n hx hb dX4_judge_63 rfl (lv_at hl 4 rfl) ?_
          obtain ⟨h_in, hf⟩ := hf
          refine va_iald hx hb hB.K hP 1 0 rfl rfl h_in dX4_judge_64 ?_
          refine lv_ishl hx hb dX4_judge_65 ?_
          refine lv_ior hx hb dX4_judge_66 ?_
          refine lv_istore_n (lv' := [(2, .int (j16_x2 ||| (1 <<< ((v_lifts j16_x3.toNatClampNeg) &&& 31)))), (4, .int r1), (0, .ref a_t), (1, .int g16_x1), (3, .int j16_x3)]) hx hb dX4_judge_67 rfl hl (by decide) rfl (fun ls hl => ?_)
          refine lv_iinc (v := j16_x3 + 1) (lv' := [(3, .int (j16_x3 + 1)), (2, .int (j16_x2 ||| (1 <<< ((v_lifts j16_x3.toNatClampNeg) &&& 31)))), (4, .int r1), (0, .ref a_t), (1, .int g16_x1)]) hx hb dX4_judge_68 hl (k := 4) rfl (by rw [kc_i_1]) (by decide) rfl (fun ls hl => ?_)
          refine lv_goto (tgt := 16) hx hb dX4_judge_71 (by decide) ?_
          exact ih_16 (j16_x2 ||| (1 <<< ((v_lifts j16_x3.toNatClampNeg) &&& 31))) (j16_x3 + 1) ls hf (lv_sub hl [3, 4, 1, 0] rfl)
        · have hf := hf.2 c43
          exact J_46 g16_x1 j16_x3 r1 ls hf (lv_sub hl [2, 4, 0] rfl)
  refine lv_iload_n hx hb dX4_judge_0 rfl (lv_at hl 1 rfl) ?_
  refine lv_if_lt (tgt := 9) hx hb dX4_judge_1 (by decide) (fun c1 => ?_) (fun c1 => ?_)
  · have hf := hf.1 c1
    refine lv_bipush hx hb dX4_judge_9 kc_b_m3 ?_
    exact hRet (-3) 11 ls dX4_judge_11 hf
  · have hf := hf.2 c1
    refine lv_iload_n hx hb dX4_judge_4 rfl (lv_at hl 1 rfl) ?_
    refine lv_iconst hx hb dX4_judge_5 kc_i_1 ?_
    refine lv_icmp_le (tgt := 12) hx hb dX4_judge_6 (by decide) (fun c6 => ?_) (fun c6 => ?_)
    · have hf := hf.1 c6
      refine lv_iconst hx hb dX4_judge_12 kc_i_0 ?_
      refine lv_istore_n (lv' := [(2, .int 0), (0, .ref a_t), (1, .int x1)]) hx hb dX4_judge_13 rfl hl (by decide) rfl (fun ls hl => ?_)
      refine lv_iconst hx hb dX4_judge_14 kc_i_0 ?_
      refine lv_istore_n (lv' := [(3, .int 0), (2, .int 0), (0, .ref a_t), (1, .int x1)]) hx hb dX4_judge_15 rfl hl (by decide) rfl (fun ls hl => ?_)
      obtain ⟨n9, hf⟩ := hf
      exact L_16 x1 n9 0 0 ls hf (lv_sub hl [2, 3, 1, 0] rfl)
    · have hf := hf.2 c6
      refine lv_bipush hx hb dX4_judge_9 kc_b_m3 ?_
      exact hRet (-3) 11 ls dX4_judge_11 hf
theorem c_X4_judge (l : Launch) (E : mx_E) (a_t : Nat) (a_text : Nat) (a_told : Nat) (a_reader : Nat) (a_tower : Nat) (a_kept : Nat) (a_isKept : Nat) (a_lifts : Nat) (a_seenAt : Nat) (a_seenInches : Nat) (a_ways : Nat) (a_trial : Nat) (a_told_kind : Nat) (a_told_weight : Nat) (a_told_strength : Nat) (a_told_height : Nat) (a_told_folk : Nat) (a_told_mustBeAbove : Nat) (a_told_wind : Nat) (v_liftsMany : Int32) (v_seenMany : Int32) (v_lifts : (Nat → Int32)) (v_told_storeys : Int32) (v_told_pairs : Int32) (v_told_bears : Int32) (v_told_soft : Int32) (v_told_cellars : Int32) (v_told_weight : (Nat → Int32)) (v_told_folk : (Nat → Int32)) (v_told_kind : (Nat → Int32)) (v_told_mustBeAbove : (Nat → Int32)) (v_told_strength : (Nat → Int32)) (v_told_wind : (Nat → Int32)) (x1 : Int32) (post : Int32 → Prop) (hf : f_X4_judge v_liftsMany v_lifts v_told_storeys v_told_weight v_told_folk v_told_bears v_told_kind v_told_cellars v_told_mustBeAbove v_told_strength v_told_wind x1 post) : Met l yX4_judge (Cond.code yX4_judge cX4_judge 5 (some .int) :: mx_WS) rm_X4_judge (va_Pc [.ref a_t, .int x1] (mx_Pp E (w_X4_judge E a_t a_text a_told a_reader a_tower a_kept a_isKept a_lifts a_seenAt a_seenInches a_ways a_trial a_told_kind a_told_weight a_told_strength a_told_height a_told_folk a_told_mustBeAbove a_told_wind v_liftsMany v_seenMany v_lifts v_told_storeys v_told_pairs v_told_bears v_told_soft v_told_cellars v_told_weight v_told_folk v_told_kind v_told_mustBeAbove v_told_strength v_told_wind))) (vp_Si post) 0 0 (fun _ => False) :=
  mx_metPi (by decide) rfl rfl (fun hB hP hRet ls hl => b_X4_judge E a_t a_text a_told a_reader a_tower a_kept a_isKept a_lifts a_seenAt a_seenInches a_ways a_trial a_told_kind a_told_weight a_told_strength a_told_height a_told_folk a_told_mustBeAbove a_told_wind v_liftsMany v_seenMany v_lifts v_told_storeys v_told_pairs v_told_bears v_told_soft v_told_cellars v_told_weight v_told_folk v_told_kind v_told_mustBeAbove v_told_strength v_told_wind x1 post hB hP hRet hf ls hl)
def rm_X4_seen : Room := { frames := 0, cells := 0, slots := 0, locals := 0 }
set_option maxHeartbeats 4000000 in
set_option maxRecDepth 100000 in
theorem b_X4_seen {p : Program} {l : Launch} {e : Env} {s : State} {m : MethodId} {args : Array Value} {below : List Frame} {meth : Method} {c : Code} {Q : State → Prop} {A : Nat → Prop} (E : mx_E) (a_t : Nat) (a_text : Nat) (a_told : Nat) (a_reader : Nat) (a_tower : Nat) (a_kept : Nat) (a_isKept : Nat) (a_lifts : Nat) (a_seenAt : Nat) (a_seenInches : Nat) (a_ways : Nat) (a_trial : Nat) (a_tower_order : Nat) (v_liftsMany : Int32) (v_seenMany : Int32) (v_tower_many : Int32) (v_tower_day : Int32) (v_seenAt : (Nat → Int32)) (v_seenInches : (Nat → Int32)) (x1 : Int32) (x2 : Int32) (post : Int32 → (Nat → Int32) → (Nat → Int32) → Int32 → Prop) (hB : mx_B p m c cX4_seen 3 s args RX4 E) (hP : va_P E.1 vwCl (w_X4_seen E a_t a_text a_told a_reader a_tower a_kept a_isKept a_lifts a_seenAt a_seenInches a_ways a_trial a_tower_order v_liftsMany v_seenMany v_tower_many v_tower_day v_seenAt v_seenInches) s.heap) (hD : va_D A (w_X4_seen E a_t a_text a_told a_reader a_tower a_kept a_isKept a_lifts a_seenAt a_seenInches a_ways a_trial a_tower_order v_liftsMany v_seenMany v_tower_many v_tower_day v_seenAt v_seenInches)) (hA : ∀ q : Nat, s.heap.size ≤ q → A q) (hRet : ∀ (v : Int32) (u : (Nat → Int32) × (Nat → Int32) × Int32) (pc : Nat) (ls : Array Slot) (H : Heap) (locs : List Loc), decode cX4_seen pc = .ok (.ireturn, 1) → post v u.1 u.2.1 u.2.2 → va_P E.1 vwCl (w_X4_seen E a_t a_text a_told a_reader a_tower a_kept a_isKept a_lifts a_seenAt a_seenInches a_ways a_trial a_tower_order v_liftsMany u.2.2 v_tower_many v_tower_day u.1 u.2.1) H → va_S A s.heap H locs → W p l e rm_X4_seen s m args below meth c H locs 0 0 Q (F0 m pc ls [.int v])) (hf : f_X4_seen v_tower_many v_seenAt v_seenInches v_seenMany x1 x2 post) (ls : Array Slot) (hl : lv_has ls 3 [(0, .ref a_t), (1, .int x1), (2, .int x2)]) : W p l e rm_X4_seen s m args below meth c s.heap [] 0 0 Q (F0 m 0 ls []) := by
  have hx := hB.x
  have hb := hB.b
  have hS : va_S A s.heap s.heap [] := va_S.rf
  obtain ⟨H, locs, eH, eL⟩ : ∃ (H : Heap) (locs : List Loc), H = s.heap ∧ locs = [] := ⟨_, _, rfl, rfl⟩
  rw [← eH] at hP
  have hS : va_S A s.heap H locs := by rw [eH, eL]; exact hS
  show W p l e rm_X4_seen s m args below meth c s.heap [] 0 0 Q (F0 m 0 ls [])
  rw [← eH, ← eL]
  refine lv_iload_n hx hb dX4_seen_0 rfl (lv_at hl 1 rfl) ?_
  refine lv_if_lt (tgt := 26) hx hb dX4_seen_1 (by decide) (fun c1 => ?_) (fun c1 => ?_)
  · have hf := hf.1 c1
    refine lv_bipush hx hb dX4_seen_26 kc_b_m3 ?_
    exact hRet (-3) (v_seenAt, v_seenInches, v_seenMany) 28 ls H locs dX4_seen_28 hf hP hS
  · have hf := hf.2 c1
    refine lv_iload_n hx hb dX4_seen_4 rfl (lv_at hl 1 rfl) ?_
    refine lv_aload_n hx hb dX4_seen_5 rfl (lv_at hl 0 rfl) ?_
    refine gf_X4_35 hB hP 0 rfl rfl dX4_seen_6 ?_
    refine gf_X4_140 hB hP 1 rfl rfl dX4_seen_9 ?_
    refine lv_icmp_ge (tgt := 26) hx hb dX4_seen_12 (by decide) (fun c12 => ?_) (fun c12 => ?_)
    · have hf := hf.1 c12
      refine lv_bipush hx hb dX4_seen_26 kc_b_m3 ?_
      exact hRet (-3) (v_seenAt, v_seenInches, v_seenMany) 28 ls H locs dX4_seen_28 hf hP hS
    · have hf := hf.2 c12
      refine lv_iload_n hx hb dX4_seen_15 rfl (lv_at hl 2 rfl) ?_
      refine lv_if_lt (tgt := 26) hx hb dX4_seen_16 (by decide) (fun c16 => ?_) (fun c16 => ?_)
      · have hf := hf.1 c16
        refine lv_bipush hx hb dX4_seen_26 kc_b_m3 ?_
        exact hRet (-3) (v_seenAt, v_seenInches, v_seenMany) 28 ls H locs dX4_seen_28 hf hP hS
      · have hf := hf.2 c16
        refine lv_iload_n hx hb dX4_seen_19 rfl (lv_at hl 2 rfl) ?_
        refine lv_sipush hx hb dX4_seen_20 kc_s_999 ?_
        refine lv_icmp_le (tgt := 29) hx hb dX4_seen_23 (by decide) (fun c23 => ?_) (fun c23 => ?_)
        · have hf := hf.1 c23
          refine lv_aload_n hx hb dX4_seen_29 rfl (lv_at hl 0 rfl) ?_
          refine gf_X4_90 hB hP 0 rfl rfl dX4_seen_30 ?_
          refine lv_bipush hx hb dX4_seen_33 kc_b_8 ?_
          refine lv_icmp_lt (tgt := 41) hx hb dX4_seen_35 (by decide) (fun c35 => ?_) (fun c35 => ?_)
          · have hf := hf.1 c35
            refine lv_aload_n hx hb dX4_seen_41 rfl (lv_at hl 0 rfl) ?_
            refine gf_X4_51 hB hP 0 rfl rfl dX4_seen_42 ?_
            refine lv_aload_n hx hb dX4_seen_45 rfl (lv_at hl 0 rfl) ?_
            refine gf_X4_90 hB hP 0 rfl rfl dX4_seen_46 ?_
            refine lv_iload_n hx hb dX4_seen_49 rfl (lv_at hl 1 rfl) ?_
            obtain ⟨h_in, hf⟩ := hf
            refine va_iast hx hb hB.K hP hD hS 2 0 rfl rfl h_in dX4_seen_50 (fun H locs hP hD hS => ?_)
            have hP : va_P E.1 vwCl (w_X4_seen E a_t a_text a_told a_reader a_tower a_kept a_isKept a_lifts a_seenAt a_seenInches a_ways a_trial a_tower_order v_liftsMany v_seenMany v_tower_many v_tower_day (upd v_seenAt v_seenMany.toNatClampNeg x1) v_seenInches) H := hP
            have hD : va_D A (w_X4_seen E a_t a_text a_told a_reader a_tower a_kept a_isKept a_lifts a_seenAt a_seenInches a_ways a_trial a_tower_order v_liftsMany v_seenMany v_tower_many v_tower_day (upd v_seenAt v_seenMany.toNatClampNeg x1) v_seenInches) := hD
            refine lv_aload_n hx hb dX4_seen_51 rfl (lv_at hl 0 rfl) ?_
            refine gf_X4_54 hB hP 0 rfl rfl dX4_seen_52 ?_
            refine lv_aload_n hx hb dX4_seen_55 rfl (lv_at hl 0 rfl) ?_
            refine gf_X4_90 hB hP 0 rfl rfl dX4_seen_56 ?_
            refine lv_iload_n hx hb dX4_seen_59 rfl (lv_at hl 2 rfl) ?_
            obtain ⟨h_in, hf⟩ := hf
            refine va_iast hx hb hB.K hP hD hS 3 0 rfl rfl h_in dX4_seen_60 (fun H locs hP hD hS => ?_)
            have hP : va_P E.1 vwCl (w_X4_seen E a_t a_text a_told a_reader a_tower a_kept a_isKept a_lifts a_seenAt a_seenInches a_ways a_trial a_tower_order v_liftsMany v_seenMany v_tower_many v_tower_day (upd v_seenAt v_seenMany.toNatClampNeg x1) (upd v_seenInches v_seenMany.toNatClampNeg x2)) H := hP
            have hD : va_D A (w_X4_seen E a_t a_text a_told a_reader a_tower a_kept a_isKept a_lifts a_seenAt a_seenInches a_ways a_trial a_tower_order v_liftsMany v_seenMany v_tower_many v_tower_day (upd v_seenAt v_seenMany.toNatClampNeg x1) (upd v_seenInches v_seenMany.toNatClampNeg x2)) := hD
            refine lv_aload_n hx hb dX4_seen_61 rfl (lv_at hl 0 rfl) ?_
            refine lv_dup hx hb dX4_seen_62 rfl ?_
            refine gf_X4_90 hB hP 0 rfl rfl dX4_seen_63 ?_
            refine lv_iconst hx hb dX4_seen_66 kc_i_1 ?_
            refine lv_iadd hx hb dX4_seen_67 ?_
            refine pf_X4_90 hB hP hD hS 0 rfl (Nat.le_of_ble_eq_true rfl) dX4_seen_68 (w_X4_seen E a_t a_text a_told a_reader a_tower a_kept a_isKept a_lifts a_seenAt a_seenInches a_ways a_trial a_tower_order v_liftsMany (v_seenMany + 1) v_tower_many v_tower_day (upd v_seenAt v_seenMany.toNatClampNeg x1) (upd v_seenInches v_seenMany.toNatClampNeg x2)) rfl (fun H locs hP hD hS => ?_)
            refine lv_aload_n hx hb dX4_seen_71 rfl (lv_at hl 0 rfl) ?_
            refine gf_X4_90 hB hP 0 rfl rfl dX4_seen_72 ?_
            exact hRet (v_seenMany + 1) (upd v_seenAt v_seenMany.toNatClampNeg x1, upd v_seenInches v_seenMany.toNatClampNeg x2, v_seenMany + 1) 75 ls H locs dX4_seen_75 hf hP hS
          · have hf := hf.2 c35
            refine lv_bipush hx hb dX4_seen_38 kc_b_m5 ?_
            exact hRet (-5) (v_seenAt, v_seenInches, v_seenMany) 40 ls H locs dX4_seen_40 hf hP hS
        · have hf := hf.2 c23
          refine lv_bipush hx hb dX4_seen_26 kc_b_m3 ?_
          exact hRet (-3) (v_seenAt, v_seenInches, v_seenMany) 28 ls H locs dX4_seen_28 hf hP hS
theorem c_X4_seen (l : Launch) (E : mx_E) (a_t : Nat) (a_text : Nat) (a_told : Nat) (a_reader : Nat) (a_tower : Nat) (a_kept : Nat) (a_isKept : Nat) (a_lifts : Nat) (a_seenAt : Nat) (a_seenInches : Nat) (a_ways : Nat) (a_trial : Nat) (a_tower_order : Nat) (v_liftsMany : Int32) (v_seenMany : Int32) (v_tower_many : Int32) (v_tower_day : Int32) (v_seenAt : (Nat → Int32)) (v_seenInches : (Nat → Int32)) (sz : Nat) (x1 : Int32) (x2 : Int32) (post : Int32 → (Nat → Int32) → (Nat → Int32) → Int32 → Prop) (hf : f_X4_seen v_tower_many v_seenAt v_seenInches v_seenMany x1 x2 post) : Met l yX4_seen (Cond.code yX4_seen cX4_seen 3 (some .int) :: mx_WS) rm_X4_seen (va_Pc [.ref a_t, .int x1, .int x2] (mx_Pw E (w_X4_seen E a_t a_text a_told a_reader a_tower a_kept a_isKept a_lifts a_seenAt a_seenInches a_ways a_trial a_tower_order v_liftsMany v_seenMany v_tower_many v_tower_day v_seenAt v_seenInches) sz)) (va_Qi (fun (v : Int32) (u : (Nat → Int32) × (Nat → Int32) × Int32) => post v u.1 u.2.1 u.2.2) (fun u t => va_P E.1 vwCl (w_X4_seen E a_t a_text a_told a_reader a_tower a_kept a_isKept a_lifts a_seenAt a_seenInches a_ways a_trial a_tower_order v_liftsMany u.2.2 v_tower_many v_tower_day u.1 u.2.1) t.heap) (va_A (w_X4_seen E a_t a_text a_told a_reader a_tower a_kept a_isKept a_lifts a_seenAt a_seenInches a_ways a_trial a_tower_order v_liftsMany v_seenMany v_tower_many v_tower_day v_seenAt v_seenInches) sz)) 0 0 (va_A (w_X4_seen E a_t a_text a_told a_reader a_tower a_kept a_isKept a_lifts a_seenAt a_seenInches a_ways a_trial a_tower_order v_liftsMany v_seenMany v_tower_many v_tower_day v_seenAt v_seenInches) sz) :=
  mx_metWi (by decide) rfl rfl (fun hB hP hD hA hRet ls hl => b_X4_seen E a_t a_text a_told a_reader a_tower a_kept a_isKept a_lifts a_seenAt a_seenInches a_ways a_trial a_tower_order v_liftsMany v_seenMany v_tower_many v_tower_day v_seenAt v_seenInches x1 x2 post hB hP hD hA hRet hf ls hl)
def rm_X4_forget : Room := { frames := 0, cells := 0, slots := 0, locals := 0 }
set_option maxHeartbeats 4000000 in
set_option maxRecDepth 100000 in
theorem b_X4_forget {p : Program} {l : Launch} {e : Env} {s : State} {m : MethodId} {args : Array Value} {below : List Frame} {meth : Method} {c : Code} {Q : State → Prop} {A : Nat → Prop} (E : mx_E) (a_t : Nat) (a_text : Nat) (a_told : Nat) (a_reader : Nat) (a_tower : Nat) (a_kept : Nat) (a_isKept : Nat) (a_lifts : Nat) (a_seenAt : Nat) (a_seenInches : Nat) (a_ways : Nat) (a_trial : Nat) (v_liftsMany : Int32) (v_seenMany : Int32)  (post : Int32 → Int32 → Prop) (hB : mx_B p m c cX4_forget 2 s args RX4 E) (hP : va_P E.1 vwCl (w_X4_forget E a_t a_text a_told a_reader a_tower a_kept a_isKept a_lifts a_seenAt a_seenInches a_ways a_trial v_liftsMany v_seenMany) s.heap) (hD : va_D A (w_X4_forget E a_t a_text a_told a_reader a_tower a_kept a_isKept a_lifts a_seenAt a_seenInches a_ways a_trial v_liftsMany v_seenMany)) (hA : ∀ q : Nat, s.heap.size ≤ q → A q) (hRet : ∀ (v : Int32) (u : Int32) (pc : Nat) (ls : Array Slot) (H : Heap) (locs : List Loc), decode cX4_forget pc = .ok (.ireturn, 1) → post v u → va_P E.1 vwCl (w_X4_forget E a_t a_text a_told a_reader a_tower a_kept a_isKept a_lifts a_seenAt a_seenInches a_ways a_trial v_liftsMany u) H → va_S A s.heap H locs → W p l e rm_X4_forget s m args below meth c H locs 0 0 Q (F0 m pc ls [.int v])) (hf : f_X4_forget v_seenMany post) (ls : Array Slot) (hl : lv_has ls 2 [(0, .ref a_t)]) : W p l e rm_X4_forget s m args below meth c s.heap [] 0 0 Q (F0 m 0 ls []) := by
  have hx := hB.x
  have hb := hB.b
  have hS : va_S A s.heap s.heap [] := va_S.rf
  obtain ⟨H, locs, eH, eL⟩ : ∃ (H : Heap) (locs : List Loc), H = s.heap ∧ locs = [] := ⟨_, _, rfl, rfl⟩
  rw [← eH] at hP
  have hS : va_S A s.heap H locs := by rw [eH, eL]; exact hS
  show W p l e rm_X4_forget s m args below meth c s.heap [] 0 0 Q (F0 m 0 ls [])
  rw [← eH, ← eL]
  refine lv_aload_n hx hb dX4_forget_0 rfl (lv_at hl 0 rfl) ?_
  refine gf_X4_90 hB hP 0 rfl rfl dX4_forget_1 ?_
  refine lv_istore_n (lv' := [(1, .int v_seenMany), (0, .ref a_t)]) hx hb dX4_forget_4 rfl hl (by decide) rfl (fun ls hl => ?_)
  refine lv_aload_n hx hb dX4_forget_5 rfl (lv_at hl 1 rfl) ?_
  refine lv_iconst hx hb dX4_forget_6 kc_i_0 ?_
  refine pf_X4_90 hB hP hD hS 0 rfl (Nat.le_of_ble_eq_true rfl) dX4_forget_7 (w_X4_forget E a_t a_text a_told a_reader a_tower a_kept a_isKept a_lifts a_seenAt a_seenInches a_ways a_trial v_liftsMany 0) rfl (fun H locs hP hD hS => ?_)
  refine lv_iload_n hx hb dX4_forget_10 rfl (lv_at hl 0 rfl) ?_
  exact hRet v_seenMany 0 11 ls H locs dX4_forget_11 hf hP hS
theorem c_X4_forget (l : Launch) (E : mx_E) (a_t : Nat) (a_text : Nat) (a_told : Nat) (a_reader : Nat) (a_tower : Nat) (a_kept : Nat) (a_isKept : Nat) (a_lifts : Nat) (a_seenAt : Nat) (a_seenInches : Nat) (a_ways : Nat) (a_trial : Nat) (v_liftsMany : Int32) (v_seenMany : Int32) (sz : Nat)  (post : Int32 → Int32 → Prop) (hf : f_X4_forget v_seenMany post) : Met l yX4_forget (Cond.code yX4_forget cX4_forget 2 (some .int) :: mx_WS) rm_X4_forget (va_Pc [.ref a_t] (mx_Pw E (w_X4_forget E a_t a_text a_told a_reader a_tower a_kept a_isKept a_lifts a_seenAt a_seenInches a_ways a_trial v_liftsMany v_seenMany) sz)) (va_Qi (fun (v : Int32) (u : Int32) => post v u) (fun u t => va_P E.1 vwCl (w_X4_forget E a_t a_text a_told a_reader a_tower a_kept a_isKept a_lifts a_seenAt a_seenInches a_ways a_trial v_liftsMany u) t.heap) (va_A (w_X4_forget E a_t a_text a_told a_reader a_tower a_kept a_isKept a_lifts a_seenAt a_seenInches a_ways a_trial v_liftsMany v_seenMany) sz)) 0 0 (va_A (w_X4_forget E a_t a_text a_told a_reader a_tower a_kept a_isKept a_lifts a_seenAt a_seenInches a_ways a_trial v_liftsMany v_seenMany) sz) :=
  mx_metWi (by decide) rfl rfl (fun hB hP hD hA hRet ls hl => b_X4_forget E a_t a_text a_told a_reader a_tower a_kept a_isKept a_lifts a_seenAt a_seenInches a_ways a_trial v_liftsMany v_seenMany  post hB hP hD hA hRet hf ls hl)
def rm_X4_fits : Room := { frames := 1, cells := 0, slots := 0, locals := 23 }
set_option maxHeartbeats 4000000 in
set_option maxRecDepth 100000 in
theorem b_X4_fits {p : Program} {l : Launch} {e : Env} {s : State} {m : MethodId} {args : Array Value} {below : List Frame} {meth : Method} {c : Code} {Q : State → Prop} (E : mx_E) (a_t : Nat) (a_text : Nat) (a_told : Nat) (a_reader : Nat) (a_tower : Nat) (a_kept : Nat) (a_isKept : Nat) (a_lifts : Nat) (a_seenAt : Nat) (a_seenInches : Nat) (a_ways : Nat) (a_trial : Nat) (a_told_kind : Nat) (a_told_weight : Nat) (a_told_strength : Nat) (a_told_height : Nat) (a_told_folk : Nat) (a_told_mustBeAbove : Nat) (a_told_wind : Nat) (a_tower_order : Nat) (v_liftsMany : Int32) (v_seenMany : Int32) (v_told_storeys : Int32) (v_told_pairs : Int32) (v_told_bears : Int32) (v_told_soft : Int32) (v_told_cellars : Int32) (v_seenAt : (Nat → Int32)) (v_tower_many : Int32) (v_tower_day : Int32) (v_tower_order : (Nat → Int32)) (v_seenInches : (Nat → Int32)) (v_told_weight : (Nat → Int32)) (v_told_folk : (Nat → Int32)) (x1 : Int32) (x2 : Int32) (post : Int32 → Prop) (hB : mx_B p m c cX4_fits 9 s args RX4 E) (hP : va_P E.1 vwCl (w_X4_fits E a_t a_text a_told a_reader a_tower a_kept a_isKept a_lifts a_seenAt a_seenInches a_ways a_trial a_told_kind a_told_weight a_told_strength a_told_height a_told_folk a_told_mustBeAbove a_told_wind a_tower_order v_liftsMany v_seenMany v_told_storeys v_told_pairs v_told_bears v_told_soft v_told_cellars v_seenAt v_tower_many v_tower_day v_tower_order v_seenInches v_told_weight v_told_folk) s.heap) (hRet : ∀ (v : Int32) (pc : Nat) (ls : Array Slot), decode cX4_fits pc = .ok (.ireturn, 1) → post v → W p l e rm_X4_fits s m args below meth c s.heap [] 0 0 Q (F0 m pc ls [.int v])) (hf : f_X4_fits v_told_storeys v_seenMany v_seenAt v_tower_many v_tower_order v_seenInches v_told_soft v_told_weight v_told_folk x1 x2 post) (ls : Array Slot) (hl : lv_has ls 9 [(0, .ref a_t), (1, .int x1), (2, .int x2)]) : W p l e rm_X4_fits s m args below meth c s.heap [] 0 0 Q (F0 m 0 ls []) := by
  have hx := hB.x
  have hb := hB.b
  have J_169 : ∀ (j169_x2 : Int32) (j169_x3 : Int32) (j169_x4 : Int32) (ls : Array Slot), f_X4_fits_169 v_told_storeys v_seenMany v_seenAt v_tower_many v_tower_order v_seenInches v_told_soft v_told_weight v_told_folk post j169_x2 j169_x3 j169_x4 → lv_has ls 9 [(2, .int j169_x2), (3, .int j169_x3), (4, .int j169_x4)] → W p l e rm_X4_fits s m args below meth c s.heap [] 0 0 Q (F0 m 169 ls []) := by
    intro j169_x2 j169_x3 j169_x4 ls hf hl
    refine lv_iconst hx hb dX4_fits_169 kc_i_0 ?_
    refine lv_iload hx hb dX4_fits_170 (lv_at hl 2 rfl) ?_
    refine lv_iload_n hx hb dX4_fits_172 rfl (lv_at hl 1 rfl) ?_
    refine lv_isub hx hb dX4_fits_173 ?_
    refine lv_iconst hx hb dX4_fits_174 kc_i_1 ?_
    refine lv_iadd hx hb dX4_fits_175 ?_
    refine va_mmax hx hb (by rw [hB.l, hl.1]) hB.o (hB.w wml_X4_209) (hB.w wst_mmax) (hB.w win_math) (hB.w wcd_mmax) (by decide) (Nat.le_of_ble_eq_true rfl) (Nat.zero_le _) (Nat.zero_le _) dX4_fits_176 ?_
    refine lv_istore (lv' := [(5, .int (if 0 < ((j169_x4 - j169_x3) + 1) then ((j169_x4 - j169_x3) + 1) else 0)), (2, .int j169_x2), (3, .int j169_x3), (4, .int j169_x4)]) hx hb dX4_fits_179 hl (by decide) rfl (fun ls hl => ?_)
    refine lv_iload_n hx hb dX4_fits_181 rfl (lv_at hl 1 rfl) ?_
    refine lv_if_ne (tgt := 188) hx hb dX4_fits_182 (by decide) (fun c182 => ?_) (fun c182 => ?_)
    · have hf := hf.1 c182
      refine lv_iload hx hb dX4_fits_188 (lv_at hl 0 rfl) ?_
      refine lv_if_ne (tgt := 195) hx hb dX4_fits_190 (by decide) (fun c190 => ?_) (fun c190 => ?_)
      · have hf := hf.1 c190
        refine lv_iload_n hx hb dX4_fits_195 rfl (lv_at hl 1 rfl) ?_
        refine lv_iconst hx hb dX4_fits_196 kc_i_1 ?_
        refine lv_icmp_ne (tgt := 204) hx hb dX4_fits_197 (by decide) (fun c197 => ?_) (fun c197 => ?_)
        · have hf := hf.1 c197
          refine lv_iload hx hb dX4_fits_204 (lv_at hl 3 rfl) ?_
          exact hRet j169_x4 206 ls dX4_fits_206 hf
        · have hf := hf.2 c197
          refine lv_iload_n hx hb dX4_fits_200 rfl (lv_at hl 2 rfl) ?_
          refine lv_goto (tgt := 206) hx hb dX4_fits_201 (by decide) ?_
          exact hRet j169_x3 206 ls dX4_fits_206 hf
      · have hf := hf.2 c190
        refine lv_iconst hx hb dX4_fits_193 kc_i_m1 ?_
        exact hRet (-1) 194 ls dX4_fits_194 hf
    · have hf := hf.2 c182
      refine lv_iload hx hb dX4_fits_185 (lv_at hl 0 rfl) ?_
      exact hRet (if 0 < ((j169_x4 - j169_x3) + 1) then ((j169_x4 - j169_x3) + 1) else 0) 187 ls dX4_fits_187 hf
  have L_35 : ∀ (g35_x1 : Int32) (g35_x2 : Int32) (n : Nat) (j35_x3 : Int32) (j35_x4 : Int32) (j35_x5 : Int32) (ls : Array Slot), mx_l3 (f_X4_fits_35 v_told_storeys v_seenMany v_seenAt v_tower_many v_tower_order v_seenInches v_told_soft v_told_weight v_told_folk post g35_x1 g35_x2) n j35_x3 j35_x4 j35_x5 → lv_has ls 9 [(0, .ref a_t), (1, .int g35_x1), (2, .int g35_x2), (3, .int j35_x3), (4, .int j35_x4), (5, .int j35_x5)] → W p l e rm_X4_fits s m args below meth c s.heap [] 0 0 Q (F0 m 35 ls []) := by
    intro g35_x1 g35_x2 n_35
    induction n_35 with
    | zero =>
      intro j35_x3 j35_x4 j35_x5 ls hf hl
      exact False.elim hf
    | succ n_35 ih_35 =>
      intro j35_x3 j35_x4 j35_x5 ls hf hl
      replace hf : f_X4_fits_35 v_told_storeys v_seenMany v_seenAt v_tower_many v_tower_order v_seenInches v_told_soft v_told_weight v_told_folk post g35_x1 g35_x2 (mx_l3 (f_X4_fits_35 v_told_storeys v_seenMany v_seenAt v_tower_many v_tower_order v_seenInches v_told_soft v_told_weight v_told_folk post g35_x1 g35_x2) n_35) j35_x3 j35_x4 j35_x5 := hf
      refine lv_iload hx hb dX4_fits_35 (lv_at hl 5 rfl) ?_
      refine lv_aload_n hx hb dX4_fits_37 rfl (lv_at hl 0 rfl) ?_
      refine gf_X4_90 hB hP 0 rfl rfl dX4_fits_38 ?_
      refine lv_icmp_ge (tgt := 169) hx hb dX4_fits_41 (by decide) (fun c41 => ?_) (fun c41 => ?_)
      · have hf := hf.1 c41
        exact J_169 g35_x2 j35_x3 j35_x4 ls hf (lv_sub hl [2, 3, 4] rfl)
      · have hf := hf.2 c41
        refine lv_aload_n hx hb dX4_fits_44 rfl (lv_at hl 0 rfl) ?_
        refine gf_X4_35 hB hP 0 rfl rfl dX4_fits_45 ?_
        refine lv_aload_n hx hb dX4_fits_48 rfl (lv_at hl 0 rfl) ?_
        refine gf_X4_51 hB hP 0 rfl rfl dX4_fits_49 ?_
        refine lv_iload hx hb dX4_fits_52 (lv_at hl 5 rfl) ?_
        obtain ⟨h_in, hf⟩ := hf
        refine va_iald hx hb hB.K hP 2 0 rfl rfl h_in dX4_fits_54 ?_
        refine mx_gi (mx_runN (As := [.int (v_seenAt j35_x5.toNatClampNeg)]) (rest := []) hB (c_X3_firstOnes l E a_tower a_tower_order v_tower_many v_tower_day v_tower_order (v_seenAt j35_x5.toNatClampNeg) _ hf) sB_X3_firstOnes sV_X3_firstOnes wmn_X4_149 rfl (mx_ppV hB hP [3, 4] rfl 3 rfl rfl rfl) hl.1 rfl (Nat.le_of_ble_eq_true rfl) dX4_fits_55 ⟨Nat.zero_le _, Nat.zero_le _⟩) (fun r1 hf => ?_)
        refine lv_istore (lv' := [(6, .int r1), (0, .ref a_t), (1, .int g35_x1), (2, .int g35_x2), (3, .int j35_x3), (4, .int j35_x4), (5, .int j35_x5)]) hx hb dX4_fits_58 hl (by decide) rfl (fun ls hl => ?_)
        refine lv_aload_n hx hb dX4_fits_60 rfl (lv_at hl 1 rfl) ?_
        refine gf_X4_54 hB hP 0 rfl rfl dX4_fits_61 ?_
        refine lv_iload hx hb dX4_fits_64 (lv_at hl 6 rfl) ?_
        obtain ⟨h_in, hf⟩ := hf
        refine va_iald hx hb hB.K hP 5 0 rfl rfl h_in dX4_fits_66 ?_
        refine lv_aload_n hx hb dX4_fits_67 rfl (lv_at hl 1 rfl) ?_
        refine gf_X4_19 hB hP 0 rfl rfl dX4_fits_68 ?_
        refine gf_X4_206 hB hP 1 rfl rfl dX4_fits_71 ?_
        refine lv_imul hx hb dX4_fits_74 ?_
        refine lv_aload_n hx hb dX4_fits_75 rfl (lv_at hl 1 rfl) ?_
        refine gf_X4_19 hB hP 0 rfl rfl dX4_fits_76 ?_
        refine lv_iload hx hb dX4_fits_79 (lv_at hl 0 rfl) ?_
        refine mx_gi (mx_runN (As := [.int r1]) (rest := [.int ((v_seenInches j35_x5.toNatClampNeg) * v_told_soft)]) hB (c_X1_loadOf l E a_told a_told_kind a_told_weight a_told_strength a_told_height a_told_folk a_told_mustBeAbove a_told_wind v_told_storeys v_told_pairs v_told_bears v_told_soft v_told_cellars v_told_weight v_told_folk r1 _ hf) sB_X1_loadOf sV_X1_loadOf wmn_X4_119 rfl (mx_ppV hB hP [1, 6, 7] rfl 1 rfl rfl rfl) hl.1 rfl (Nat.le_of_ble_eq_true rfl) dX4_fits_81 ⟨Nat.zero_le _, Nat.zero_le _⟩) (fun r2 hf => ?_)
        refine lv_isub hx hb dX4_fits_84 ?_
        refine lv_istore (lv' := [(7, .int (((v_seenInches j35_x5.toNatClampNeg) * v_told_soft) - r2)), (6, .int r1), (0, .ref a_t), (1, .int g35_x1), (2, .int g35_x2), (3, .int j35_x3), (4, .int j35_x4), (5, .int j35_x5)]) hx hb dX4_fits_85 hl (by decide) rfl (fun ls hl => ?_)
        refine lv_iload hx hb dX4_fits_87 (lv_at hl 0 rfl) ?_
        refine lv_aload_n hx hb dX4_fits_89 rfl (lv_at hl 2 rfl) ?_
        refine gf_X4_19 hB hP 0 rfl rfl dX4_fits_90 ?_
        refine gf_X4_206 hB hP 1 rfl rfl dX4_fits_93 ?_
        refine lv_iadd hx hb dX4_fits_96 ?_
        refine lv_iconst hx hb dX4_fits_97 kc_i_1 ?_
        refine lv_isub hx hb dX4_fits_98 ?_
        refine lv_istore (lv' := [(8, .int (((((v_seenInches j35_x5.toNatClampNeg) * v_told_soft) - r2) + v_told_soft) - 1)), (7, .int (((v_seenInches j35_x5.toNatClampNeg) * v_told_soft) - r2)), (6, .int r1), (0, .ref a_t), (1, .int g35_x1), (2, .int g35_x2), (3, .int j35_x3), (4, .int j35_x4), (5, .int j35_x5)]) hx hb dX4_fits_99 hl (by decide) rfl (fun ls hl => ?_)
        refine lv_iload hx hb dX4_fits_101 (lv_at hl 2 rfl) ?_
        refine lv_iload_n hx hb dX4_fits_103 rfl (lv_at hl 4 rfl) ?_
        refine lv_ishr hx hb dX4_fits_104 ?_
        refine lv_iconst hx hb dX4_fits_105 kc_i_1 ?_
        refine lv_iand hx hb dX4_fits_106 ?_
        refine lv_iconst hx hb dX4_fits_107 kc_i_1 ?_
        refine lv_icmp_ne (tgt := 150) hx hb dX4_fits_108 (by decide) (fun c108 => ?_) (fun c108 => ?_)
        · have hf := hf.1 c108
          refine lv_iload hx hb dX4_fits_150 (lv_at hl 1 rfl) ?_
          refine lv_if_gt (tgt := 160) hx hb dX4_fits_152 (by decide) (fun c152 => ?_) (fun c152 => ?_)
          · have hf := hf.1 c152
            refine lv_iconst hx hb dX4_fits_160 kc_i_0 ?_
            refine lv_istore (lv' := [(4, .int 0), (8, .int (((((v_seenInches j35_x5.toNatClampNeg) * v_told_soft) - r2) + v_told_soft) - 1)), (7, .int (((v_seenInches j35_x5.toNatClampNeg) * v_told_soft) - r2)), (6, .int r1), (0, .ref a_t), (1, .int g35_x1), (2, .int g35_x2), (3, .int j35_x3), (5, .int j35_x5)]) hx hb dX4_fits_161 hl (by decide) rfl (fun ls hl => ?_)
            refine lv_iinc (v := j35_x5 + 1) (lv' := [(5, .int (j35_x5 + 1)), (4, .int 0), (8, .int (((((v_seenInches j35_x5.toNatClampNeg) * v_told_soft) - r2) + v_told_soft) - 1)), (7, .int (((v_seenInches j35_x5.toNatClampNeg) * v_told_soft) - r2)), (6, .int r1), (0, .ref a_t), (1, .int g35_x1), (2, .int g35_x2), (3, .int j35_x3)]) hx hb dX4_fits_163 hl (k := 8) rfl (by rw [kc_i_1]) (by decide) rfl (fun ls hl => ?_)
            refine lv_goto (tgt := 35) hx hb dX4_fits_166 (by decide) ?_
            exact ih_35 j35_x3 0 (j35_x5 + 1) ls hf (lv_sub hl [5, 6, 7, 8, 1, 0] rfl)
          · have hf := hf.2 c152
            refine lv_iload hx hb dX4_fits_155 (lv_at hl 0 rfl) ?_
            refine lv_if_ge (tgt := 163) hx hb dX4_fits_157 (by decide) (fun c157 => ?_) (fun c157 => ?_)
            · have hf := hf.1 c157
              refine lv_iinc (v := j35_x5 + 1) (lv' := [(5, .int (j35_x5 + 1)), (8, .int (((((v_seenInches j35_x5.toNatClampNeg) * v_told_soft) - r2) + v_told_soft) - 1)), (7, .int (((v_seenInches j35_x5.toNatClampNeg) * v_told_soft) - r2)), (6, .int r1), (0, .ref a_t), (1, .int g35_x1), (2, .int g35_x2), (3, .int j35_x3), (4, .int j35_x4)]) hx hb dX4_fits_163 hl (k := 8) rfl (by rw [kc_i_1]) (by decide) rfl (fun ls hl => ?_)
              refine lv_goto (tgt := 35) hx hb dX4_fits_166 (by decide) ?_
              exact ih_35 j35_x3 j35_x4 (j35_x5 + 1) ls hf (lv_sub hl [4, 5, 6, 7, 8, 0] rfl)
            · have hf := hf.2 c157
              refine lv_iconst hx hb dX4_fits_160 kc_i_0 ?_
              refine lv_istore (lv' := [(4, .int 0), (8, .int (((((v_seenInches j35_x5.toNatClampNeg) * v_told_soft) - r2) + v_told_soft) - 1)), (7, .int (((v_seenInches j35_x5.toNatClampNeg) * v_told_soft) - r2)), (6, .int r1), (0, .ref a_t), (1, .int g35_x1), (2, .int g35_x2), (3, .int j35_x3), (5, .int j35_x5)]) hx hb dX4_fits_161 hl (by decide) rfl (fun ls hl => ?_)
              refine lv_iinc (v := j35_x5 + 1) (lv' := [(5, .int (j35_x5 + 1)), (4, .int 0), (8, .int (((((v_seenInches j35_x5.toNatClampNeg) * v_told_soft) - r2) + v_told_soft) - 1)), (7, .int (((v_seenInches j35_x5.toNatClampNeg) * v_told_soft) - r2)), (6, .int r1), (0, .ref a_t), (1, .int g35_x1), (2, .int g35_x2), (3, .int j35_x3)]) hx hb dX4_fits_163 hl (k := 8) rfl (by rw [kc_i_1]) (by decide) rfl (fun ls hl => ?_)
              refine lv_goto (tgt := 35) hx hb dX4_fits_166 (by decide) ?_
              exact ih_35 j35_x3 0 (j35_x5 + 1) ls hf (lv_sub hl [5, 6, 7, 8, 1, 0] rfl)
        · have hf := hf.2 c108
          refine lv_iload_n hx hb dX4_fits_111 rfl (lv_at hl 6 rfl) ?_
          refine lv_aload_n hx hb dX4_fits_112 rfl (lv_at hl 3 rfl) ?_
          refine gf_X4_19 hB hP 0 rfl rfl dX4_fits_113 ?_
          refine gf_X4_103 hB hP 1 rfl rfl dX4_fits_116 ?_
          refine lv_iload_n hx hb dX4_fits_119 rfl (lv_at hl 4 rfl) ?_
          obtain ⟨h_in, hf⟩ := hf
          refine va_iald hx hb hB.K hP 6 0 rfl rfl h_in dX4_fits_120 ?_
          refine lv_iload hx hb dX4_fits_121 (lv_at hl 1 rfl) ?_
          refine lv_iadd hx hb dX4_fits_123 ?_
          refine va_mmax hx hb (by rw [hB.l, hl.1]) hB.o (hB.w wml_X4_209) (hB.w wst_mmax) (hB.w win_math) (hB.w wcd_mmax) (by decide) (Nat.le_of_ble_eq_true rfl) (Nat.zero_le _) (Nat.zero_le _) dX4_fits_124 ?_
          refine lv_topi (fun z3 ez3 => ?_)
          have hf := hf z3 ez3
          refine lv_istore_n (lv' := [(3, .int z3), (8, .int (((((v_seenInches j35_x5.toNatClampNeg) * v_told_soft) - r2) + v_told_soft) - 1)), (7, .int (((v_seenInches j35_x5.toNatClampNeg) * v_told_soft) - r2)), (6, .int r1), (0, .ref a_t), (1, .int g35_x1), (2, .int g35_x2), (4, .int j35_x4), (5, .int j35_x5)]) hx hb dX4_fits_127 rfl hl (by decide) rfl (fun ls hl => ?_)
          refine lv_iload hx hb dX4_fits_128 (lv_at hl 7 rfl) ?_
          refine lv_aload_n hx hb dX4_fits_130 rfl (lv_at hl 4 rfl) ?_
          refine gf_X4_19 hB hP 0 rfl rfl dX4_fits_131 ?_
          refine gf_X4_103 hB hP 1 rfl rfl dX4_fits_134 ?_
          refine lv_iload_n hx hb dX4_fits_137 rfl (lv_at hl 5 rfl) ?_
          obtain ⟨h_in, hf⟩ := hf
          refine va_iald hx hb hB.K hP 6 0 rfl rfl h_in dX4_fits_138 ?_
          refine lv_iload hx hb dX4_fits_139 (lv_at hl 1 rfl) ?_
          refine lv_iadd hx hb dX4_fits_141 ?_
          refine va_mmin hx hb (by rw [hB.l, hl.1]) hB.o (hB.w wml_X4_215) (hB.w wst_mmin) (hB.w win_math) (hB.w wcd_mmin) (by decide) (Nat.le_of_ble_eq_true rfl) (Nat.zero_le _) (Nat.zero_le _) dX4_fits_142 ?_
          refine lv_topi (fun z4 ez4 => ?_)
          have hf := hf z4 ez4
          refine lv_istore (lv' := [(4, .int z4), (3, .int z3), (8, .int (((((v_seenInches j35_x5.toNatClampNeg) * v_told_soft) - r2) + v_told_soft) - 1)), (7, .int (((v_seenInches j35_x5.toNatClampNeg) * v_told_soft) - r2)), (6, .int r1), (0, .ref a_t), (1, .int g35_x1), (2, .int g35_x2), (5, .int j35_x5)]) hx hb dX4_fits_145 hl (by decide) rfl (fun ls hl => ?_)
          refine lv_goto (tgt := 163) hx hb dX4_fits_147 (by decide) ?_
          refine lv_iinc (v := j35_x5 + 1) (lv' := [(5, .int (j35_x5 + 1)), (4, .int z4), (3, .int z3), (8, .int (((((v_seenInches j35_x5.toNatClampNeg) * v_told_soft) - r2) + v_told_soft) - 1)), (7, .int (((v_seenInches j35_x5.toNatClampNeg) * v_told_soft) - r2)), (6, .int r1), (0, .ref a_t), (1, .int g35_x1), (2, .int g35_x2)]) hx hb dX4_fits_163 hl (k := 8) rfl (by rw [kc_i_1]) (by decide) rfl (fun ls hl => ?_)
          refine lv_goto (tgt := 35) hx hb dX4_fits_166 (by decide) ?_
          exact ih_35 z3 z4 (j35_x5 + 1) ls hf (lv_sub hl [6, 7, 8, 2, 1, 0] rfl)
  refine lv_aload_n hx hb dX4_fits_0 rfl (lv_at hl 0 rfl) ?_
  refine gf_X4_19 hB hP 0 rfl rfl dX4_fits_1 ?_
  refine lv_iload_n hx hb dX4_fits_4 rfl (lv_at hl 1 rfl) ?_
  refine mx_gi (mx_runN (As := [.int x1]) (rest := []) hB (c_X1_has l E a_told a_told_kind a_told_weight a_told_strength a_told_height a_told_folk a_told_mustBeAbove a_told_wind v_told_storeys v_told_pairs v_told_bears v_told_soft v_told_cellars x1 _ hf) sB_X1_has sV_X1_has wmn_X4_96 rfl (mx_ppV hB hP [1] rfl 1 rfl rfl rfl) hl.1 rfl (Nat.le_of_ble_eq_true rfl) dX4_fits_5 ⟨Nat.zero_le _, Nat.zero_le _⟩) (fun r1 hf => ?_)
  refine lv_if_ne (tgt := 14) hx hb dX4_fits_8 (by decide) (fun c8 => ?_) (fun c8 => ?_)
  · have hf := hf.1 c8
    refine lv_iload_n hx hb dX4_fits_14 rfl (lv_at hl 2 rfl) ?_
    refine lv_if_lt (tgt := 23) hx hb dX4_fits_15 (by decide) (fun c15 => ?_) (fun c15 => ?_)
    · have hf := hf.1 c15
      refine lv_bipush hx hb dX4_fits_23 kc_b_m3 ?_
      exact hRet (-3) 25 ls dX4_fits_25 hf
    · have hf := hf.2 c15
      refine lv_iload_n hx hb dX4_fits_18 rfl (lv_at hl 2 rfl) ?_
      refine lv_iconst hx hb dX4_fits_19 kc_i_2 ?_
      refine lv_icmp_le (tgt := 26) hx hb dX4_fits_20 (by decide) (fun c20 => ?_) (fun c20 => ?_)
      · have hf := hf.1 c20
        refine lv_iconst hx hb dX4_fits_26 kc_i_1 ?_
        refine lv_istore_n (lv' := [(3, .int 1), (0, .ref a_t), (1, .int x1), (2, .int x2)]) hx hb dX4_fits_27 rfl hl (by decide) rfl (fun ls hl => ?_)
        refine lv_bipush hx hb dX4_fits_28 kc_b_99 ?_
        refine lv_istore (lv' := [(4, .int 99), (3, .int 1), (0, .ref a_t), (1, .int x1), (2, .int x2)]) hx hb dX4_fits_30 hl (by decide) rfl (fun ls hl => ?_)
        refine lv_iconst hx hb dX4_fits_32 kc_i_0 ?_
        refine lv_istore (lv' := [(5, .int 0), (4, .int 99), (3, .int 1), (0, .ref a_t), (1, .int x1), (2, .int x2)]) hx hb dX4_fits_33 hl (by decide) rfl (fun ls hl => ?_)
        obtain ⟨n9, hf⟩ := hf
        exact L_35 x1 x2 n9 1 99 0 ls hf (lv_sub hl [3, 4, 5, 2, 1, 0] rfl)
      · have hf := hf.2 c20
        refine lv_bipush hx hb dX4_fits_23 kc_b_m3 ?_
        exact hRet (-3) 25 ls dX4_fits_25 hf
  · have hf := hf.2 c8
    refine lv_bipush hx hb dX4_fits_11 kc_b_m2 ?_
    exact hRet (-2) 13 ls dX4_fits_13 hf
theorem c_X4_fits (l : Launch) (E : mx_E) (a_t : Nat) (a_text : Nat) (a_told : Nat) (a_reader : Nat) (a_tower : Nat) (a_kept : Nat) (a_isKept : Nat) (a_lifts : Nat) (a_seenAt : Nat) (a_seenInches : Nat) (a_ways : Nat) (a_trial : Nat) (a_told_kind : Nat) (a_told_weight : Nat) (a_told_strength : Nat) (a_told_height : Nat) (a_told_folk : Nat) (a_told_mustBeAbove : Nat) (a_told_wind : Nat) (a_tower_order : Nat) (v_liftsMany : Int32) (v_seenMany : Int32) (v_told_storeys : Int32) (v_told_pairs : Int32) (v_told_bears : Int32) (v_told_soft : Int32) (v_told_cellars : Int32) (v_seenAt : (Nat → Int32)) (v_tower_many : Int32) (v_tower_day : Int32) (v_tower_order : (Nat → Int32)) (v_seenInches : (Nat → Int32)) (v_told_weight : (Nat → Int32)) (v_told_folk : (Nat → Int32)) (x1 : Int32) (x2 : Int32) (post : Int32 → Prop) (hf : f_X4_fits v_told_storeys v_seenMany v_seenAt v_tower_many v_tower_order v_seenInches v_told_soft v_told_weight v_told_folk x1 x2 post) : Met l yX4_fits (Cond.code yX4_fits cX4_fits 9 (some .int) :: mx_WS) rm_X4_fits (va_Pc [.ref a_t, .int x1, .int x2] (mx_Pp E (w_X4_fits E a_t a_text a_told a_reader a_tower a_kept a_isKept a_lifts a_seenAt a_seenInches a_ways a_trial a_told_kind a_told_weight a_told_strength a_told_height a_told_folk a_told_mustBeAbove a_told_wind a_tower_order v_liftsMany v_seenMany v_told_storeys v_told_pairs v_told_bears v_told_soft v_told_cellars v_seenAt v_tower_many v_tower_day v_tower_order v_seenInches v_told_weight v_told_folk))) (vp_Si post) 0 0 (fun _ => False) :=
  mx_metPi (by decide) rfl rfl (fun hB hP hRet ls hl => b_X4_fits E a_t a_text a_told a_reader a_tower a_kept a_isKept a_lifts a_seenAt a_seenInches a_ways a_trial a_told_kind a_told_weight a_told_strength a_told_height a_told_folk a_told_mustBeAbove a_told_wind a_tower_order v_liftsMany v_seenMany v_told_storeys v_told_pairs v_told_bears v_told_soft v_told_cellars v_seenAt v_tower_many v_tower_day v_tower_order v_seenInches v_told_weight v_told_folk x1 x2 post hB hP hRet hf ls hl)
def rm_X4_count : Room := { frames := 2, cells := 0, slots := 0, locals := 43 }
set_option maxHeartbeats 4000000 in
set_option maxRecDepth 100000 in
theorem b_X4_count {p : Program} {l : Launch} {e : Env} {s : State} {m : MethodId} {args : Array Value} {below : List Frame} {meth : Method} {c : Code} {Q : State → Prop} (E : mx_E) (a_t : Nat) (a_text : Nat) (a_told : Nat) (a_reader : Nat) (a_tower : Nat) (a_kept : Nat) (a_isKept : Nat) (a_lifts : Nat) (a_seenAt : Nat) (a_seenInches : Nat) (a_ways : Nat) (a_trial : Nat) (a_text_bytes : Nat) (a_tower_order : Nat) (a_told_kind : Nat) (a_told_weight : Nat) (a_told_strength : Nat) (a_told_height : Nat) (a_told_folk : Nat) (a_told_mustBeAbove : Nat) (a_told_wind : Nat) (v_liftsMany : Int32) (v_seenMany : Int32) (v_text_length : Int32) (v_tower_many : Int32) (v_tower_day : Int32) (v_told_storeys : Int32) (v_told_pairs : Int32) (v_told_bears : Int32) (v_told_soft : Int32) (v_told_cellars : Int32) (v_told_wind : (Nat → Int32)) (v_tower_order : (Nat → Int32)) (v_told_weight : (Nat → Int32)) (v_told_folk : (Nat → Int32)) (v_told_height : (Nat → Int32)) (x1 : Int32) (post : Int32 → Prop) (hB : mx_B p m c cX4_count 2 s args RX4 E) (hP : va_P E.1 vwCl (w_X4_count E a_t a_text a_told a_reader a_tower a_kept a_isKept a_lifts a_seenAt a_seenInches a_ways a_trial a_text_bytes a_tower_order a_told_kind a_told_weight a_told_strength a_told_height a_told_folk a_told_mustBeAbove a_told_wind v_liftsMany v_seenMany v_text_length v_tower_many v_tower_day v_told_storeys v_told_pairs v_told_bears v_told_soft v_told_cellars v_told_wind v_tower_order v_told_weight v_told_folk v_told_height) s.heap) (hRet : ∀ (v : Int32) (pc : Nat) (ls : Array Slot), decode cX4_count pc = .ok (.ireturn, 1) → post v → W p l e rm_X4_count s m args below meth c s.heap [] 0 0 Q (F0 m pc ls [.int v])) (hf : f_X4_count v_text_length v_seenMany v_liftsMany v_tower_day v_told_wind v_tower_many v_tower_order v_told_storeys v_told_weight v_told_folk v_told_height v_told_pairs v_told_soft v_told_bears x1 post) (ls : Array Slot) (hl : lv_has ls 2 [(0, .ref a_t), (1, .int x1)]) : W p l e rm_X4_count s m args below meth c s.heap [] 0 0 Q (F0 m 0 ls []) := by
  have hx := hB.x
  have hb := hB.b
  refine lv_iload_n hx hb dX4_count_0 rfl (lv_at hl 1 rfl) ?_
  by_cases c1_0 : x1 = 0
  · have hf := hf.1 c1_0
    refine lv_tableIn (tgt := 64) hx hb dX4_count_1 (by rw [c1_0]; decide) (by rw [c1_0]; decide) (by rw [c1_0]; rfl) (by decide) ?_
    refine lv_aload_n hx hb dX4_count_64 rfl (lv_at hl 0 rfl) ?_
    refine gf_X4_19 hB hP 0 rfl rfl dX4_count_65 ?_
    refine gf_X4_164 hB hP 3 rfl rfl dX4_count_68 ?_
    exact hRet v_told_storeys 71 ls dX4_count_71 hf
  · have hf := hf.2 c1_0
    by_cases c1_1 : x1 = 1
    · have hf := hf.1 c1_1
      refine lv_tableIn (tgt := 72) hx hb dX4_count_1 (by rw [c1_1]; decide) (by rw [c1_1]; decide) (by rw [c1_1]; rfl) (by decide) ?_
      refine lv_aload_n hx hb dX4_count_72 rfl (lv_at hl 0 rfl) ?_
      refine gf_X4_19 hB hP 0 rfl rfl dX4_count_73 ?_
      refine gf_X4_173 hB hP 3 rfl rfl dX4_count_76 ?_
      exact hRet v_told_bears 79 ls dX4_count_79 hf
    · have hf := hf.2 c1_1
      by_cases c1_2 : x1 = 2
      · have hf := hf.1 c1_2
        refine lv_tableIn (tgt := 80) hx hb dX4_count_1 (by rw [c1_2]; decide) (by rw [c1_2]; decide) (by rw [c1_2]; rfl) (by decide) ?_
        refine lv_aload_n hx hb dX4_count_80 rfl (lv_at hl 0 rfl) ?_
        refine gf_X4_19 hB hP 0 rfl rfl dX4_count_81 ?_
        refine gf_X4_206 hB hP 3 rfl rfl dX4_count_84 ?_
        exact hRet v_told_soft 87 ls dX4_count_87 hf
      · have hf := hf.2 c1_2
        by_cases c1_3 : x1 = 3
        · have hf := hf.1 c1_3
          refine lv_tableIn (tgt := 88) hx hb dX4_count_1 (by rw [c1_3]; decide) (by rw [c1_3]; decide) (by rw [c1_3]; rfl) (by decide) ?_
          refine lv_aload_n hx hb dX4_count_88 rfl (lv_at hl 0 rfl) ?_
          refine gf_X4_19 hB hP 0 rfl rfl dX4_count_89 ?_
          refine gf_X4_218 hB hP 3 rfl rfl dX4_count_92 ?_
          exact hRet v_told_pairs 95 ls dX4_count_95 hf
        · have hf := hf.2 c1_3
          by_cases c1_4 : x1 = 4
          · have hf := hf.1 c1_4
            refine lv_tableIn (tgt := 96) hx hb dX4_count_1 (by rw [c1_4]; decide) (by rw [c1_4]; decide) (by rw [c1_4]; rfl) (by decide) ?_
            refine lv_aload_n hx hb dX4_count_96 rfl (lv_at hl 0 rfl) ?_
            refine gf_X4_35 hB hP 0 rfl rfl dX4_count_97 ?_
            refine gf_X4_140 hB hP 2 rfl rfl dX4_count_100 ?_
            exact hRet v_tower_many 103 ls dX4_count_103 hf
          · have hf := hf.2 c1_4
            by_cases c1_5 : x1 = 5
            · have hf := hf.1 c1_5
              refine lv_tableIn (tgt := 104) hx hb dX4_count_1 (by rw [c1_5]; decide) (by rw [c1_5]; decide) (by rw [c1_5]; rfl) (by decide) ?_
              refine lv_aload_n hx hb dX4_count_104 rfl (lv_at hl 0 rfl) ?_
              refine gf_X4_35 hB hP 0 rfl rfl dX4_count_105 ?_
              refine gf_X4_126 hB hP 2 rfl rfl dX4_count_108 ?_
              exact hRet v_tower_day 111 ls dX4_count_111 hf
            · have hf := hf.2 c1_5
              by_cases c1_6 : x1 = 6
              · have hf := hf.1 c1_6
                refine lv_tableIn (tgt := 112) hx hb dX4_count_1 (by rw [c1_6]; decide) (by rw [c1_6]; decide) (by rw [c1_6]; rfl) (by decide) ?_
                refine lv_aload_n hx hb dX4_count_112 rfl (lv_at hl 0 rfl) ?_
                refine gf_X4_19 hB hP 0 rfl rfl dX4_count_113 ?_
                refine lv_aload_n hx hb dX4_count_116 rfl (lv_at hl 0 rfl) ?_
                refine gf_X4_35 hB hP 0 rfl rfl dX4_count_117 ?_
                refine mx_gi (mx_runN (As := []) (rest := [.ref a_told]) hB (c_X3_set l E a_tower a_tower_order v_tower_many v_tower_day v_tower_order _ hf) sB_X3_set sV_X3_set wmn_X4_129 rfl (mx_ppV hB hP [2, 5] rfl 3 rfl rfl rfl) hl.1 rfl (Nat.le_of_ble_eq_true rfl) dX4_count_120 ⟨Nat.zero_le _, Nat.zero_le _⟩) (fun r1 hf => ?_)
                refine mx_gi (mx_runN (As := [.int r1]) (rest := []) hB (c_X1_heightOf l E a_told a_told_kind a_told_weight a_told_strength a_told_height a_told_folk a_told_mustBeAbove a_told_wind v_told_storeys v_told_pairs v_told_bears v_told_soft v_told_cellars v_told_height r1 _ hf) sB_X1_heightOf sV_X1_heightOf wmn_X4_152 rfl (mx_ppV hB hP [3, 8] rfl 1 rfl rfl rfl) hl.1 rfl (Nat.le_of_ble_eq_true rfl) dX4_count_123 ⟨Nat.zero_le _, Nat.zero_le _⟩) (fun r2 hf => ?_)
                exact hRet r2 126 ls dX4_count_126 hf
              · have hf := hf.2 c1_6
                by_cases c1_7 : x1 = 7
                · have hf := hf.1 c1_7
                  refine lv_tableIn (tgt := 127) hx hb dX4_count_1 (by rw [c1_7]; decide) (by rw [c1_7]; decide) (by rw [c1_7]; rfl) (by decide) ?_
                  refine lv_aload_n hx hb dX4_count_127 rfl (lv_at hl 0 rfl) ?_
                  refine gf_X4_19 hB hP 0 rfl rfl dX4_count_128 ?_
                  refine lv_aload_n hx hb dX4_count_131 rfl (lv_at hl 0 rfl) ?_
                  refine gf_X4_35 hB hP 0 rfl rfl dX4_count_132 ?_
                  refine mx_gi (mx_runN (As := []) (rest := [.ref a_told]) hB (c_X3_set l E a_tower a_tower_order v_tower_many v_tower_day v_tower_order _ hf) sB_X3_set sV_X3_set wmn_X4_129 rfl (mx_ppV hB hP [2, 5] rfl 3 rfl rfl rfl) hl.1 rfl (Nat.le_of_ble_eq_true rfl) dX4_count_135 ⟨Nat.zero_le _, Nat.zero_le _⟩) (fun r3 hf => ?_)
                  refine mx_gi (mx_runN (As := [.int r3]) (rest := []) hB (c_X1_loadOf l E a_told a_told_kind a_told_weight a_told_strength a_told_height a_told_folk a_told_mustBeAbove a_told_wind v_told_storeys v_told_pairs v_told_bears v_told_soft v_told_cellars v_told_weight v_told_folk r3 _ hf) sB_X1_loadOf sV_X1_loadOf wmn_X4_119 rfl (mx_ppV hB hP [3, 6, 7] rfl 1 rfl rfl rfl) hl.1 rfl (Nat.le_of_ble_eq_true rfl) dX4_count_138 ⟨Nat.zero_le _, Nat.zero_le _⟩) (fun r4 hf => ?_)
                  exact hRet r4 141 ls dX4_count_141 hf
                · have hf := hf.2 c1_7
                  by_cases c1_8 : x1 = 8
                  · have hf := hf.1 c1_8
                    refine lv_tableIn (tgt := 142) hx hb dX4_count_1 (by rw [c1_8]; decide) (by rw [c1_8]; decide) (by rw [c1_8]; rfl) (by decide) ?_
                    refine lv_aload_n hx hb dX4_count_142 rfl (lv_at hl 0 rfl) ?_
                    refine gf_X4_19 hB hP 0 rfl rfl dX4_count_143 ?_
                    refine lv_aload_n hx hb dX4_count_146 rfl (lv_at hl 0 rfl) ?_
                    refine gf_X4_35 hB hP 0 rfl rfl dX4_count_147 ?_
                    refine gf_X4_126 hB hP 2 rfl rfl dX4_count_150 ?_
                    refine mx_gi (mx_runN (As := [.int v_tower_day]) (rest := []) hB (c_X1_windOf l E a_told a_told_kind a_told_weight a_told_strength a_told_height a_told_folk a_told_mustBeAbove a_told_wind v_told_storeys v_told_pairs v_told_bears v_told_soft v_told_cellars v_told_wind v_tower_day _ hf) sB_X1_windOf sV_X1_windOf wmn_X4_190 rfl (mx_ppV hB hP [3, 4] rfl 1 rfl rfl rfl) hl.1 rfl (Nat.le_of_ble_eq_true rfl) dX4_count_153 ⟨Nat.zero_le _, Nat.zero_le _⟩) (fun r5 hf => ?_)
                    exact hRet r5 156 ls dX4_count_156 hf
                  · have hf := hf.2 c1_8
                    by_cases c1_9 : x1 = 9
                    · have hf := hf.1 c1_9
                      refine lv_tableIn (tgt := 157) hx hb dX4_count_1 (by rw [c1_9]; decide) (by rw [c1_9]; decide) (by rw [c1_9]; rfl) (by decide) ?_
                      refine lv_aload_n hx hb dX4_count_157 rfl (lv_at hl 0 rfl) ?_
                      refine gf_X4_87 hB hP 0 rfl rfl dX4_count_158 ?_
                      exact hRet v_liftsMany 161 ls dX4_count_161 hf
                    · have hf := hf.2 c1_9
                      by_cases c1_10 : x1 = 10
                      · have hf := hf.1 c1_10
                        refine lv_tableIn (tgt := 162) hx hb dX4_count_1 (by rw [c1_10]; decide) (by rw [c1_10]; decide) (by rw [c1_10]; rfl) (by decide) ?_
                        refine lv_aload_n hx hb dX4_count_162 rfl (lv_at hl 0 rfl) ?_
                        refine gf_X4_90 hB hP 0 rfl rfl dX4_count_163 ?_
                        exact hRet v_seenMany 166 ls dX4_count_166 hf
                      · have hf := hf.2 c1_10
                        by_cases c1_11 : x1 = 11
                        · have hf := hf.1 c1_11
                          refine lv_tableIn (tgt := 167) hx hb dX4_count_1 (by rw [c1_11]; decide) (by rw [c1_11]; decide) (by rw [c1_11]; rfl) (by decide) ?_
                          refine lv_aload_n hx hb dX4_count_167 rfl (lv_at hl 0 rfl) ?_
                          refine gf_X4_10 hB hP 0 rfl rfl dX4_count_168 ?_
                          refine gf_X4_63 hB hP 1 rfl rfl dX4_count_171 ?_
                          exact hRet v_text_length 174 ls dX4_count_174 hf
                        · have hf := hf.2 c1_11
                          refine lv_tableOut (tgt := 175) hx hb dX4_count_1 (mx_out 0 11 [0, 1, 2, 3, 4, 5, 6, 7, 8, 9, 10, 11] (List.forall_mem_cons.mpr ⟨c1_0, (List.forall_mem_cons.mpr ⟨c1_1, (List.forall_mem_cons.mpr ⟨c1_2, (List.forall_mem_cons.mpr ⟨c1_3, (List.forall_mem_cons.mpr ⟨c1_4, (List.forall_mem_cons.mpr ⟨c1_5, (List.forall_mem_cons.mpr ⟨c1_6, (List.forall_mem_cons.mpr ⟨c1_7, (List.forall_mem_cons.mpr ⟨c1_8, (List.forall_mem_cons.mpr ⟨c1_9, (List.forall_mem_cons.mpr ⟨c1_10, (List.forall_mem_cons.mpr ⟨c1_11, (fun _ h => absurd h List.not_mem_nil)⟩)⟩)⟩)⟩)⟩)⟩)⟩)⟩)⟩)⟩)⟩)⟩) (by decide)) (by decide) ?_
                          refine lv_bipush hx hb dX4_count_175 kc_b_m3 ?_
                          exact hRet (-3) 177 ls dX4_count_177 hf
theorem c_X4_count (l : Launch) (E : mx_E) (a_t : Nat) (a_text : Nat) (a_told : Nat) (a_reader : Nat) (a_tower : Nat) (a_kept : Nat) (a_isKept : Nat) (a_lifts : Nat) (a_seenAt : Nat) (a_seenInches : Nat) (a_ways : Nat) (a_trial : Nat) (a_text_bytes : Nat) (a_tower_order : Nat) (a_told_kind : Nat) (a_told_weight : Nat) (a_told_strength : Nat) (a_told_height : Nat) (a_told_folk : Nat) (a_told_mustBeAbove : Nat) (a_told_wind : Nat) (v_liftsMany : Int32) (v_seenMany : Int32) (v_text_length : Int32) (v_tower_many : Int32) (v_tower_day : Int32) (v_told_storeys : Int32) (v_told_pairs : Int32) (v_told_bears : Int32) (v_told_soft : Int32) (v_told_cellars : Int32) (v_told_wind : (Nat → Int32)) (v_tower_order : (Nat → Int32)) (v_told_weight : (Nat → Int32)) (v_told_folk : (Nat → Int32)) (v_told_height : (Nat → Int32)) (x1 : Int32) (post : Int32 → Prop) (hf : f_X4_count v_text_length v_seenMany v_liftsMany v_tower_day v_told_wind v_tower_many v_tower_order v_told_storeys v_told_weight v_told_folk v_told_height v_told_pairs v_told_soft v_told_bears x1 post) : Met l yX4_count (Cond.code yX4_count cX4_count 2 (some .int) :: mx_WS) rm_X4_count (va_Pc [.ref a_t, .int x1] (mx_Pp E (w_X4_count E a_t a_text a_told a_reader a_tower a_kept a_isKept a_lifts a_seenAt a_seenInches a_ways a_trial a_text_bytes a_tower_order a_told_kind a_told_weight a_told_strength a_told_height a_told_folk a_told_mustBeAbove a_told_wind v_liftsMany v_seenMany v_text_length v_tower_many v_tower_day v_told_storeys v_told_pairs v_told_bears v_told_soft v_told_cellars v_told_wind v_tower_order v_told_weight v_told_folk v_told_height))) (vp_Si post) 0 0 (fun _ => False) :=
  mx_metPi (by decide) rfl rfl (fun hB hP hRet ls hl => b_X4_count E a_t a_text a_told a_reader a_tower a_kept a_isKept a_lifts a_seenAt a_seenInches a_ways a_trial a_text_bytes a_tower_order a_told_kind a_told_weight a_told_strength a_told_height a_told_folk a_told_mustBeAbove a_told_wind v_liftsMany v_seenMany v_text_length v_tower_many v_tower_day v_told_storeys v_told_pairs v_told_bears v_told_soft v_told_cellars v_told_wind v_tower_order v_told_weight v_told_folk v_told_height x1 post hB hP hRet hf ls hl)
