def rm_X4_write : Room := { frames := 1, cells := 0, slots := 0, locals := 21 }
set_option maxHeartbeats 4000000 in
set_option maxRecDepth 100000 in
theorem b_X4_write {p : Program} {l : Launch} {e : Env} {s : State} {m : MethodId} {args : Array Value} {below : List Frame} {meth : Method} {c : Code} {Q : State → Prop} {A : Nat → Prop} (E : mx_E) (a_t : Nat) (a_text : Nat) (a_told : Nat) (a_reader : Nat) (a_tower : Nat) (a_kept : Nat) (a_isKept : Nat) (a_lifts : Nat) (a_seenAt : Nat) (a_seenInches : Nat) (a_ways : Nat) (a_trial : Nat) (a_text_bytes : Nat) (v_liftsMany : Int32) (v_seenMany : Int32) (v_text_length : Int32) (v_text_bytes : (Nat → Int32)) (y1 : Int64) (x3 : Int32) (post : Int32 → (Nat → Int32) → Int32 → Prop) (hB : mx_B p m c cX4_write 5 s args RX4 E) (hP : va_P E.1 vwCl (w_X4_write E a_t a_text a_told a_reader a_tower a_kept a_isKept a_lifts a_seenAt a_seenInches a_ways a_trial a_text_bytes v_liftsMany v_seenMany v_text_length v_text_bytes) s.heap) (hD : va_D A (w_X4_write E a_t a_text a_told a_reader a_tower a_kept a_isKept a_lifts a_seenAt a_seenInches a_ways a_trial a_text_bytes v_liftsMany v_seenMany v_text_length v_text_bytes)) (hA : ∀ q : Nat, s.heap.size ≤ q → A q) (hRet : ∀ (v : Int32) (u : (Nat → Int32) × Int32) (pc : Nat) (ls : Array Slot) (H : Heap) (locs : List Loc), decode cX4_write pc = .ok (.ireturn, 1) → post v u.1 u.2 → va_P E.1 vwCl (w_X4_write E a_t a_text a_told a_reader a_tower a_kept a_isKept a_lifts a_seenAt a_seenInches a_ways a_trial a_text_bytes v_liftsMany v_seenMany u.2 u.1) H → va_S A s.heap H locs → W p l e rm_X4_write s m args below meth c H locs 0 0 Q (F0 m pc ls [.int v])) (hf : f_X4_write v_text_bytes v_text_length y1 x3 post) (ls : Array Slot) (hl : lv_has ls 5 [(0, .ref a_t), (1, .long y1), (3, .int x3)]) : W p l e rm_X4_write s m args below meth c s.heap [] 0 0 Q (F0 m 0 ls []) := by
  have hx := hB.x
  have hb := hB.b
  have hS : va_S A s.heap s.heap [] := va_S.rf
  have J_66 : ∀ (j66_v_text_bytes : (Nat → Int32)) (j66_v_text_length : Int32) (ls : Array Slot) (H : Heap) (locs : List Loc), f_X4_write_66 post j66_v_text_bytes j66_v_text_length → lv_has ls 5 [(0, .ref a_t)] → va_P E.1 vwCl (w_X4_write E a_t a_text a_told a_reader a_tower a_kept a_isKept a_lifts a_seenAt a_seenInches a_ways a_trial a_text_bytes v_liftsMany v_seenMany j66_v_text_length j66_v_text_bytes) H → va_D A (w_X4_write E a_t a_text a_told a_reader a_tower a_kept a_isKept a_lifts a_seenAt a_seenInches a_ways a_trial a_text_bytes v_liftsMany v_seenMany j66_v_text_length j66_v_text_bytes) → va_S A s.heap H locs → W p l e rm_X4_write s m args below meth c H locs 0 0 Q (F0 m 66 ls []) := by
    intro j66_v_text_bytes j66_v_text_length ls H locs hf hl hP hD hS
    refine lv_aload_n hx hb dX4_write_66 rfl (lv_at hl 0 rfl) ?_
    refine gf_X4_10 hB hP 0 rfl rfl dX4_write_67 ?_
    refine gf_X4_63 hB hP 1 rfl rfl dX4_write_70 ?_
    exact hRet j66_v_text_length (j66_v_text_bytes, j66_v_text_length) 73 ls H locs dX4_write_73 hf hP hS
  have L_35 : ∀ (g35_y1 : Int64) (g35_x3 : Int32) (n : Nat) (j35_x4 : Int32) (j35_v_text_bytes : (Nat → Int32)) (j35_v_text_length : Int32) (ls : Array Slot) (H : Heap) (locs : List Loc), mx_l3 (f_X4_write_35 post g35_y1 g35_x3) n j35_x4 j35_v_text_bytes j35_v_text_length → lv_has ls 5 [(0, .ref a_t), (1, .long g35_y1), (3, .int g35_x3), (4, .int j35_x4)] → va_P E.1 vwCl (w_X4_write E a_t a_text a_told a_reader a_tower a_kept a_isKept a_lifts a_seenAt a_seenInches a_ways a_trial a_text_bytes v_liftsMany v_seenMany j35_v_text_length j35_v_text_bytes) H → va_D A (w_X4_write E a_t a_text a_told a_reader a_tower a_kept a_isKept a_lifts a_seenAt a_seenInches a_ways a_trial a_text_bytes v_liftsMany v_seenMany j35_v_text_length j35_v_text_bytes) → va_S A s.heap H locs → W p l e rm_X4_write s m args below meth c H locs 0 0 Q (F0 m 35 ls []) := by
    intro g35_y1 g35_x3 n_35
    induction n_35 with
    | zero =>
      intro j35_x4 j35_v_text_bytes j35_v_text_length ls H locs hf hl hP hD hS
      exact False.elim hf
    | succ n_35 ih_35 =>
      intro j35_x4 j35_v_text_bytes j35_v_text_length ls H locs hf hl hP hD hS
      replace hf : f_X4_write_35 post g35_y1 g35_x3 (mx_l3 (f_X4_write_35 post g35_y1 g35_x3) n_35) j35_x4 j35_v_text_bytes j35_v_text_length := hf
      refine lv_iload hx hb dX4_write_35 (lv_at hl 3 rfl) ?_
      refine lv_iload_n hx hb dX4_write_37 rfl (lv_at hl 2 rfl) ?_
      refine lv_icmp_ge (tgt := 66) hx hb dX4_write_38 (by decide) (fun c38 => ?_) (fun c38 => ?_)
      · have hf := hf.1 c38
        exact J_66 j35_v_text_bytes j35_v_text_length ls H locs hf (lv_sub hl [0] rfl) hP hD hS
      · have hf := hf.2 c38
        refine lv_aload_n hx hb dX4_write_41 rfl (lv_at hl 0 rfl) ?_
        refine gf_X4_10 hB hP 0 rfl rfl dX4_write_42 ?_
        refine lv_lload_n hx hb dX4_write_45 rfl (lv_at hl 1 rfl) ?_
        refine lv_bipush hx hb dX4_write_46 kc_b_8 ?_
        refine lv_iload hx hb dX4_write_48 (lv_at hl 3 rfl) ?_
        refine lv_imul hx hb dX4_write_50 ?_
        refine lv_lshr hx hb dX4_write_51 rfl ?_
        refine lv_ldc2 hx hb hB.o (hB.w wcl_X4_67) dX4_write_52 ?_
        refine lv_land hx hb dX4_write_55 ?_
        refine lv_l2i hx hb dX4_write_56 rfl ?_
        refine mx_wv (mx_runN (As := [.int (((g35_y1 >>> ((8 * j35_x4).toInt64 &&& 63)) &&& 255).toInt32)]) (rest := []) hB (c_X2_append l E a_text a_text_bytes j35_v_text_length j35_v_text_bytes H.size (((g35_y1 >>> ((8 * j35_x4).toInt64 &&& 63)) &&& 255).toInt32) _ hf) sB_X2_append sV_X2_append wmn_X4_69 rfl (mx_pwV hB hP hD [1, 2] (by decide) rfl rfl 2 rfl rfl rfl) hl.1 rfl (Nat.le_of_ble_eq_true rfl) dX4_write_57 ⟨Nat.zero_le _, Nat.zero_le _⟩) hP hD hS hA [1, 2] [0] 3 rfl (fun u => w_X4_write E a_t a_text a_told a_reader a_tower a_kept a_isKept a_lifts a_seenAt a_seenInches a_ways a_trial a_text_bytes v_liftsMany v_seenMany u.2 u.1) (fun _ => rfl) (by decide) (fun _ => rfl) (fun _ => rfl) rfl (fun _ => rfl) (fun u H locs hf hP hD hS => ?_)
        obtain ⟨u2, u3⟩ := u
        have hP : va_P E.1 vwCl (w_X4_write E a_t a_text a_told a_reader a_tower a_kept a_isKept a_lifts a_seenAt a_seenInches a_ways a_trial a_text_bytes v_liftsMany v_seenMany u3 u2) H := hP
        have hD : va_D A (w_X4_write E a_t a_text a_told a_reader a_tower a_kept a_isKept a_lifts a_seenAt a_seenInches a_ways a_trial a_text_bytes v_liftsMany v_seenMany u3 u2) := hD
        refine lv_iinc (v := j35_x4 + 1) (lv' := [(4, .int (j35_x4 + 1)), (0, .ref a_t), (1, .long g35_y1), (3, .int g35_x3)]) hx hb dX4_write_60 hl (k := 3) rfl (by rw [kc_i_1]) (by decide) rfl (fun ls hl => ?_)
        refine lv_goto (tgt := 35) hx hb dX4_write_63 (by decide) ?_
        exact ih_35 (j35_x4 + 1) u2 u3 ls H locs hf (lv_sub hl [1, 2, 3, 0] rfl) hP hD hS
  obtain ⟨H, locs, eH, eL⟩ : ∃ (H : Heap) (locs : List Loc), H = s.heap ∧ locs = [] := ⟨_, _, rfl, rfl⟩
  rw [← eH] at hP
  have hS : va_S A s.heap H locs := by rw [eH, eL]; exact hS
  show W p l e rm_X4_write s m args below meth c s.heap [] 0 0 Q (F0 m 0 ls [])
  rw [← eH, ← eL]
  refine lv_iload_n hx hb dX4_write_0 rfl (lv_at hl 2 rfl) ?_
  refine lv_iconst hx hb dX4_write_1 kc_i_1 ?_
  refine lv_icmp_lt (tgt := 11) hx hb dX4_write_2 (by decide) (fun c2 => ?_) (fun c2 => ?_)
  · have hf := hf.1 c2
    refine lv_bipush hx hb dX4_write_11 kc_b_m3 ?_
    exact hRet (-3) (v_text_bytes, v_text_length) 13 ls H locs dX4_write_13 hf hP hS
  · have hf := hf.2 c2
    refine lv_iload_n hx hb dX4_write_5 rfl (lv_at hl 2 rfl) ?_
    refine lv_bipush hx hb dX4_write_6 kc_b_8 ?_
    refine lv_icmp_le (tgt := 14) hx hb dX4_write_8 (by decide) (fun c8 => ?_) (fun c8 => ?_)
    · have hf := hf.1 c8
      refine lv_aload_n hx hb dX4_write_14 rfl (lv_at hl 0 rfl) ?_
      refine gf_X4_10 hB hP 0 rfl rfl dX4_write_15 ?_
      refine gf_X4_63 hB hP 1 rfl rfl dX4_write_18 ?_
      refine lv_iload_n hx hb dX4_write_21 rfl (lv_at hl 2 rfl) ?_
      refine lv_iadd hx hb dX4_write_22 ?_
      refine lv_sipush hx hb dX4_write_23 kc_s_200 ?_
      refine lv_icmp_le (tgt := 32) hx hb dX4_write_26 (by decide) (fun c26 => ?_) (fun c26 => ?_)
      · have hf := hf.1 c26
        refine lv_iconst hx hb dX4_write_32 kc_i_0 ?_
        refine lv_istore (lv' := [(4, .int 0), (0, .ref a_t), (1, .long y1), (3, .int x3)]) hx hb dX4_write_33 hl (by decide) rfl (fun ls hl => ?_)
        obtain ⟨n9, hf⟩ := hf
        exact L_35 y1 x3 n9 0 v_text_bytes v_text_length ls H locs hf (lv_sub hl [1, 2, 3, 0] rfl) hP hD hS
      · have hf := hf.2 c26
        refine lv_bipush hx hb dX4_write_29 kc_b_m5 ?_
        exact hRet (-5) (v_text_bytes, v_text_length) 31 ls H locs dX4_write_31 hf hP hS
    · have hf := hf.2 c8
      refine lv_bipush hx hb dX4_write_11 kc_b_m3 ?_
      exact hRet (-3) (v_text_bytes, v_text_length) 13 ls H locs dX4_write_13 hf hP hS
theorem c_X4_write (l : Launch) (E : mx_E) (a_t : Nat) (a_text : Nat) (a_told : Nat) (a_reader : Nat) (a_tower : Nat) (a_kept : Nat) (a_isKept : Nat) (a_lifts : Nat) (a_seenAt : Nat) (a_seenInches : Nat) (a_ways : Nat) (a_trial : Nat) (a_text_bytes : Nat) (v_liftsMany : Int32) (v_seenMany : Int32) (v_text_length : Int32) (v_text_bytes : (Nat → Int32)) (sz : Nat) (y1 : Int64) (x3 : Int32) (post : Int32 → (Nat → Int32) → Int32 → Prop) (hf : f_X4_write v_text_bytes v_text_length y1 x3 post) : Met l yX4_write (Cond.code yX4_write cX4_write 5 (some .int) :: mx_WS) rm_X4_write (va_Pc [.ref a_t, .long y1, .int x3] (mx_Pw E (w_X4_write E a_t a_text a_told a_reader a_tower a_kept a_isKept a_lifts a_seenAt a_seenInches a_ways a_trial a_text_bytes v_liftsMany v_seenMany v_text_length v_text_bytes) sz)) (va_Qi (fun (v : Int32) (u : (Nat → Int32) × Int32) => post v u.1 u.2) (fun u t => va_P E.1 vwCl (w_X4_write E a_t a_text a_told a_reader a_tower a_kept a_isKept a_lifts a_seenAt a_seenInches a_ways a_trial a_text_bytes v_liftsMany v_seenMany u.2 u.1) t.heap) (va_A (w_X4_write E a_t a_text a_told a_reader a_tower a_kept a_isKept a_lifts a_seenAt a_seenInches a_ways a_trial a_text_bytes v_liftsMany v_seenMany v_text_length v_text_bytes) sz)) 0 0 (va_A (w_X4_write E a_t a_text a_told a_reader a_tower a_kept a_isKept a_lifts a_seenAt a_seenInches a_ways a_trial a_text_bytes v_liftsMany v_seenMany v_text_length v_text_bytes) sz) :=
  mx_metWi (by decide) rfl rfl (fun hB hP hD hA hRet ls hl => b_X4_write E a_t a_text a_told a_reader a_tower a_kept a_isKept a_lifts a_seenAt a_seenInches a_ways a_trial a_text_bytes v_liftsMany v_seenMany v_text_length v_text_bytes y1 x3 post hB hP hD hA hRet hf ls hl)
def rm_X4_erase : Room := { frames := 0, cells := 0, slots := 0, locals := 0 }
set_option maxHeartbeats 4000000 in
set_option maxRecDepth 100000 in
theorem b_X4_erase {p : Program} {l : Launch} {e : Env} {s : State} {m : MethodId} {args : Array Value} {below : List Frame} {meth : Method} {c : Code} {Q : State → Prop} {A : Nat → Prop} (E : mx_E) (a_t : Nat) (a_text : Nat) (a_told : Nat) (a_reader : Nat) (a_tower : Nat) (a_kept : Nat) (a_isKept : Nat) (a_lifts : Nat) (a_seenAt : Nat) (a_seenInches : Nat) (a_ways : Nat) (a_trial : Nat) (a_text_bytes : Nat) (v_liftsMany : Int32) (v_seenMany : Int32) (v_text_length : Int32)  (post : Int32 → Int32 → Prop) (hB : mx_B p m c cX4_erase 2 s args RX4 E) (hP : va_P E.1 vwCl (w_X4_erase E a_t a_text a_told a_reader a_tower a_kept a_isKept a_lifts a_seenAt a_seenInches a_ways a_trial a_text_bytes v_liftsMany v_seenMany v_text_length) s.heap) (hD : va_D A (w_X4_erase E a_t a_text a_told a_reader a_tower a_kept a_isKept a_lifts a_seenAt a_seenInches a_ways a_trial a_text_bytes v_liftsMany v_seenMany v_text_length)) (hA : ∀ q : Nat, s.heap.size ≤ q → A q) (hRet : ∀ (v : Int32) (u : Int32) (pc : Nat) (ls : Array Slot) (H : Heap) (locs : List Loc), decode cX4_erase pc = .ok (.ireturn, 1) → post v u → va_P E.1 vwCl (w_X4_erase E a_t a_text a_told a_reader a_tower a_kept a_isKept a_lifts a_seenAt a_seenInches a_ways a_trial a_text_bytes v_liftsMany v_seenMany u) H → va_S A s.heap H locs → W p l e rm_X4_erase s m args below meth c H locs 0 0 Q (F0 m pc ls [.int v])) (hf : f_X4_erase v_text_length post) (ls : Array Slot) (hl : lv_has ls 2 [(0, .ref a_t)]) : W p l e rm_X4_erase s m args below meth c s.heap [] 0 0 Q (F0 m 0 ls []) := by
  have hx := hB.x
  have hb := hB.b
  have hS : va_S A s.heap s.heap [] := va_S.rf
  obtain ⟨H, locs, eH, eL⟩ : ∃ (H : Heap) (locs : List Loc), H = s.heap ∧ locs = [] := ⟨_, _, rfl, rfl⟩
  rw [← eH] at hP
  have hS : va_S A s.heap H locs := by rw [eH, eL]; exact hS
  show W p l e rm_X4_erase s m args below meth c s.heap [] 0 0 Q (F0 m 0 ls [])
  rw [← eH, ← eL]
  refine lv_aload_n hx hb dX4_erase_0 rfl (lv_at hl 0 rfl) ?_
  refine gf_X4_10 hB hP 0 rfl rfl dX4_erase_1 ?_
  refine gf_X4_63 hB hP 1 rfl rfl dX4_erase_4 ?_
  refine lv_istore_n (lv' := [(1, .int v_text_length), (0, .ref a_t)]) hx hb dX4_erase_7 rfl hl (by decide) rfl (fun ls hl => ?_)
  refine lv_aload_n hx hb dX4_erase_8 rfl (lv_at hl 1 rfl) ?_
  refine gf_X4_10 hB hP 0 rfl rfl dX4_erase_9 ?_
  refine lv_iconst hx hb dX4_erase_12 kc_i_0 ?_
  refine pf_X4_63 hB hP hD hS 1 rfl (Nat.le_of_ble_eq_true rfl) dX4_erase_13 (w_X4_erase E a_t a_text a_told a_reader a_tower a_kept a_isKept a_lifts a_seenAt a_seenInches a_ways a_trial a_text_bytes v_liftsMany v_seenMany 0) rfl (fun H locs hP hD hS => ?_)
  refine lv_iload_n hx hb dX4_erase_16 rfl (lv_at hl 0 rfl) ?_
  exact hRet v_text_length 0 17 ls H locs dX4_erase_17 hf hP hS
theorem c_X4_erase (l : Launch) (E : mx_E) (a_t : Nat) (a_text : Nat) (a_told : Nat) (a_reader : Nat) (a_tower : Nat) (a_kept : Nat) (a_isKept : Nat) (a_lifts : Nat) (a_seenAt : Nat) (a_seenInches : Nat) (a_ways : Nat) (a_trial : Nat) (a_text_bytes : Nat) (v_liftsMany : Int32) (v_seenMany : Int32) (v_text_length : Int32) (sz : Nat)  (post : Int32 → Int32 → Prop) (hf : f_X4_erase v_text_length post) : Met l yX4_erase (Cond.code yX4_erase cX4_erase 2 (some .int) :: mx_WS) rm_X4_erase (va_Pc [.ref a_t] (mx_Pw E (w_X4_erase E a_t a_text a_told a_reader a_tower a_kept a_isKept a_lifts a_seenAt a_seenInches a_ways a_trial a_text_bytes v_liftsMany v_seenMany v_text_length) sz)) (va_Qi (fun (v : Int32) (u : Int32) => post v u) (fun u t => va_P E.1 vwCl (w_X4_erase E a_t a_text a_told a_reader a_tower a_kept a_isKept a_lifts a_seenAt a_seenInches a_ways a_trial a_text_bytes v_liftsMany v_seenMany u) t.heap) (va_A (w_X4_erase E a_t a_text a_told a_reader a_tower a_kept a_isKept a_lifts a_seenAt a_seenInches a_ways a_trial a_text_bytes v_liftsMany v_seenMany v_text_length) sz)) 0 0 (va_A (w_X4_erase E a_t a_text a_told a_reader a_tower a_kept a_isKept a_lifts a_seenAt a_seenInches a_ways a_trial a_text_bytes v_liftsMany v_seenMany v_text_length) sz) :=
  mx_metWi (by decide) rfl rfl (fun hB hP hD hA hRet ls hl => b_X4_erase E a_t a_text a_told a_reader a_tower a_kept a_isKept a_lifts a_seenAt a_seenInches a_ways a_trial a_text_bytes v_liftsMany v_seenMany v_text_length  post hB hP hD hA hRet hf ls hl)
def rm_X4_fault : Room := { frames := 8, cells := 0, slots := 0, locals := 172 }
set_option maxHeartbeats 4000000 in
set_option maxRecDepth 100000 in
theorem b_X4_fault {p : Program} {l : Launch} {e : Env} {s : State} {m : MethodId} {args : Array Value} {below : List Frame} {meth : Method} {c : Code} {Q : State → Prop} {A : Nat → Prop} (E : mx_E) (Z : (Nat → Nat) × (Nat → Nat)) (a_t : Nat) (a_text : Nat) (a_told : Nat) (a_reader : Nat) (a_tower : Nat) (a_kept : Nat) (a_isKept : Nat) (a_lifts : Nat) (a_seenAt : Nat) (a_seenInches : Nat) (a_ways : Nat) (a_trial : Nat) (a_reader_draft : Nat) (a_reader_numbers : Nat) (a_reader_draft_kind : Nat) (a_reader_draft_weight : Nat) (a_reader_draft_strength : Nat) (a_reader_draft_height : Nat) (a_reader_draft_folk : Nat) (a_reader_draft_mustBeAbove : Nat) (a_reader_draft_wind : Nat) (a_told_kind : Nat) (a_told_weight : Nat) (a_told_strength : Nat) (a_told_height : Nat) (a_told_folk : Nat) (a_told_mustBeAbove : Nat) (a_told_wind : Nat) (a_text_bytes : Nat) (v_liftsMany : Int32) (v_seenMany : Int32) (v_reader_lines : Int32) (v_reader_start : Int32) (v_reader_end : Int32) (v_reader_draft_storeys : Int32) (v_reader_draft_pairs : Int32) (v_reader_draft_bears : Int32) (v_reader_draft_soft : Int32) (v_reader_draft_cellars : Int32) (v_told_storeys : Int32) (v_told_pairs : Int32) (v_told_bears : Int32) (v_told_soft : Int32) (v_told_cellars : Int32) (v_told_kind : (Nat → Int32)) (v_reader_draft_kind : (Nat → Int32)) (v_told_weight : (Nat → Int32)) (v_reader_draft_weight : (Nat → Int32)) (v_told_strength : (Nat → Int32)) (v_reader_draft_strength : (Nat → Int32)) (v_told_height : (Nat → Int32)) (v_reader_draft_height : (Nat → Int32)) (v_told_folk : (Nat → Int32)) (v_reader_draft_folk : (Nat → Int32)) (v_told_mustBeAbove : (Nat → Int32)) (v_reader_draft_mustBeAbove : (Nat → Int32)) (v_told_wind : (Nat → Int32)) (v_reader_draft_wind : (Nat → Int32)) (v_text_length : Int32) (v_text_bytes : (Nat → Int32)) (v_reader_numbers : (Nat → Int32))  (post : Int32 → Int32 → Int32 → Int32 → Int32 → Int32 → (Nat → Int32) → (Nat → Int32) → (Nat → Int32) → (Nat → Int32) → (Nat → Int32) → (Nat → Int32) → (Nat → Int32) → Int32 → Int32 → Int32 → (Nat → Int32) → Prop) (hB : mx_B p m c cX4_fault 1 s args RX4 E) (hP : va_P E.1 vwCl (w_X4_fault E a_t a_text a_told a_reader a_tower a_kept a_isKept a_lifts a_seenAt a_seenInches a_ways a_trial a_reader_draft a_reader_numbers a_reader_draft_kind a_reader_draft_weight a_reader_draft_strength a_reader_draft_height a_reader_draft_folk a_reader_draft_mustBeAbove a_reader_draft_wind a_told_kind a_told_weight a_told_strength a_told_height a_told_folk a_told_mustBeAbove a_told_wind a_text_bytes v_liftsMany v_seenMany v_reader_lines v_reader_start v_reader_end v_reader_draft_storeys v_reader_draft_pairs v_reader_draft_bears v_reader_draft_soft v_reader_draft_cellars v_told_storeys v_told_pairs v_told_bears v_told_soft v_told_cellars v_told_kind v_reader_draft_kind v_told_weight v_reader_draft_weight v_told_strength v_reader_draft_strength v_told_height v_reader_draft_height v_told_folk v_reader_draft_folk v_told_mustBeAbove v_reader_draft_mustBeAbove v_told_wind v_reader_draft_wind v_text_length v_text_bytes v_reader_numbers) s.heap) (hD : va_D A (w_X4_fault E a_t a_text a_told a_reader a_tower a_kept a_isKept a_lifts a_seenAt a_seenInches a_ways a_trial a_reader_draft a_reader_numbers a_reader_draft_kind a_reader_draft_weight a_reader_draft_strength a_reader_draft_height a_reader_draft_folk a_reader_draft_mustBeAbove a_reader_draft_wind a_told_kind a_told_weight a_told_strength a_told_height a_told_folk a_told_mustBeAbove a_told_wind a_text_bytes v_liftsMany v_seenMany v_reader_lines v_reader_start v_reader_end v_reader_draft_storeys v_reader_draft_pairs v_reader_draft_bears v_reader_draft_soft v_reader_draft_cellars v_told_storeys v_told_pairs v_told_bears v_told_soft v_told_cellars v_told_kind v_reader_draft_kind v_told_weight v_reader_draft_weight v_told_strength v_reader_draft_strength v_told_height v_reader_draft_height v_told_folk v_reader_draft_folk v_told_mustBeAbove v_reader_draft_mustBeAbove v_told_wind v_reader_draft_wind v_text_length v_text_bytes v_reader_numbers)) (hA : ∀ q : Nat, s.heap.size ≤ q → A q) (hZ : mx_Z Z A s) (hRet : ∀ (v : Int32) (u : Int32 × Int32 × Int32 × Int32 × Int32 × (Nat → Int32) × (Nat → Int32) × (Nat → Int32) × (Nat → Int32) × (Nat → Int32) × (Nat → Int32) × (Nat → Int32) × Int32 × Int32 × Int32 × (Nat → Int32)) (pc : Nat) (ls : Array Slot) (H : Heap) (locs : List Loc), decode cX4_fault pc = .ok (.ireturn, 1) → post v u.1 u.2.1 u.2.2.1 u.2.2.2.1 u.2.2.2.2.1 u.2.2.2.2.2.1 u.2.2.2.2.2.2.1 u.2.2.2.2.2.2.2.1 u.2.2.2.2.2.2.2.2.1 u.2.2.2.2.2.2.2.2.2.1 u.2.2.2.2.2.2.2.2.2.2.1 u.2.2.2.2.2.2.2.2.2.2.2.1 u.2.2.2.2.2.2.2.2.2.2.2.2.1 u.2.2.2.2.2.2.2.2.2.2.2.2.2.1 u.2.2.2.2.2.2.2.2.2.2.2.2.2.2.1 u.2.2.2.2.2.2.2.2.2.2.2.2.2.2.2 → va_P E.1 vwCl (w_X4_fault E a_t a_text a_told a_reader a_tower a_kept a_isKept a_lifts a_seenAt a_seenInches a_ways a_trial a_reader_draft a_reader_numbers a_reader_draft_kind a_reader_draft_weight a_reader_draft_strength a_reader_draft_height a_reader_draft_folk a_reader_draft_mustBeAbove a_reader_draft_wind a_told_kind a_told_weight a_told_strength a_told_height a_told_folk a_told_mustBeAbove a_told_wind a_text_bytes v_liftsMany v_seenMany u.2.2.2.2.2.2.2.2.2.2.2.2.2.2.1 u.2.2.2.2.2.2.2.2.2.2.2.2.2.1 u.2.2.2.2.2.2.2.2.2.2.2.2.1 u.1 u.2.1 u.2.2.1 u.2.2.2.1 u.2.2.2.2.1 v_told_storeys v_told_pairs v_told_bears v_told_soft v_told_cellars v_told_kind u.2.2.2.2.2.1 v_told_weight u.2.2.2.2.2.2.1 v_told_strength u.2.2.2.2.2.2.2.1 v_told_height u.2.2.2.2.2.2.2.2.1 v_told_folk u.2.2.2.2.2.2.2.2.2.1 v_told_mustBeAbove u.2.2.2.2.2.2.2.2.2.2.1 v_told_wind u.2.2.2.2.2.2.2.2.2.2.2.1 v_text_length v_text_bytes u.2.2.2.2.2.2.2.2.2.2.2.2.2.2.2) H → va_S A s.heap H locs → W p l e rm_X4_fault s m args below meth c H locs 0 0 Q (F0 m pc ls [.int v])) (hf : f_X4_fault v_told_storeys v_told_pairs v_told_bears v_told_soft v_told_cellars v_told_kind v_told_weight v_told_strength v_told_height v_told_folk v_told_mustBeAbove v_told_wind v_text_length v_text_bytes v_reader_draft_storeys v_reader_draft_pairs v_reader_draft_bears v_reader_draft_soft v_reader_draft_cellars v_reader_draft_kind v_reader_draft_weight v_reader_draft_strength v_reader_draft_height v_reader_draft_folk v_reader_draft_mustBeAbove v_reader_draft_wind v_reader_end v_reader_start v_reader_lines v_reader_numbers post) (ls : Array Slot) (hl : lv_has ls 1 [(0, .ref a_t)]) : W p l e rm_X4_fault s m args below meth c s.heap [] 0 0 Q (F0 m 0 ls []) := by
  have hx := hB.x
  have hb := hB.b
  have hS : va_S A s.heap s.heap [] := va_S.rf
  obtain ⟨H, locs, eH, eL⟩ : ∃ (H : Heap) (locs : List Loc), H = s.heap ∧ locs = [] := ⟨_, _, rfl, rfl⟩
  rw [← eH] at hP
  have hS : va_S A s.heap H locs := by rw [eH, eL]; exact hS
  show W p l e rm_X4_fault s m args below meth c s.heap [] 0 0 Q (F0 m 0 ls [])
  rw [← eH, ← eL]
  refine lv_aload_n hx hb dX4_fault_0 rfl (lv_at hl 0 rfl) ?_
  refine gf_X4_28 hB hP 0 rfl rfl dX4_fault_1 ?_
  refine lv_aload_n hx hb dX4_fault_4 rfl (lv_at hl 0 rfl) ?_
  refine gf_X4_19 hB hP 0 rfl rfl dX4_fault_5 ?_
  refine mx_wi (mx_runN (As := [.ref a_told]) (rest := []) hB (c_X0_firstFault l E Z a_reader a_text a_reader_draft a_reader_numbers a_reader_draft_kind a_reader_draft_weight a_reader_draft_strength a_reader_draft_height a_reader_draft_folk a_reader_draft_mustBeAbove a_reader_draft_wind a_told a_told_kind a_told_weight a_told_strength a_told_height a_told_folk a_told_mustBeAbove a_told_wind a_text_bytes v_reader_lines v_reader_start v_reader_end v_reader_draft_storeys v_reader_draft_pairs v_reader_draft_bears v_reader_draft_soft v_reader_draft_cellars v_told_storeys v_told_pairs v_told_bears v_told_soft v_told_cellars v_told_kind v_reader_draft_kind v_told_weight v_reader_draft_weight v_told_strength v_reader_draft_strength v_told_height v_reader_draft_height v_told_folk v_reader_draft_folk v_told_mustBeAbove v_reader_draft_mustBeAbove v_told_wind v_reader_draft_wind v_text_length v_text_bytes v_reader_numbers H.size  _ hf) sB_X0_firstFault sV_X0_firstFault wmn_X4_73 rfl (mx_pwVz hB hP hD (hZ.nar hS (va_free (wc := w_X0_firstFault E a_reader a_text a_reader_draft a_reader_numbers a_reader_draft_kind a_reader_draft_weight a_reader_draft_strength a_reader_draft_height a_reader_draft_folk a_reader_draft_mustBeAbove a_reader_draft_wind a_told a_told_kind a_told_weight a_told_strength a_told_height a_told_folk a_told_mustBeAbove a_told_wind a_text_bytes v_reader_lines v_reader_start v_reader_end v_reader_draft_storeys v_reader_draft_pairs v_reader_draft_bears v_reader_draft_soft v_reader_draft_cellars v_told_storeys v_told_pairs v_told_bears v_told_soft v_told_cellars v_told_kind v_reader_draft_kind v_told_weight v_reader_draft_weight v_told_strength v_reader_draft_strength v_told_height v_reader_draft_height v_told_folk v_reader_draft_folk v_told_mustBeAbove v_reader_draft_mustBeAbove v_told_wind v_reader_draft_wind v_text_length v_text_bytes v_reader_numbers) hD hS hA [1, 2, 3, 4, 5, 6, 7, 8, 9, 10, 11, 12, 13, 14, 15, 16, 17, 18, 19, 20] rfl)) [1, 2, 3, 4, 5, 6, 7, 8, 9, 10, 11, 12, 13, 14, 15, 16, 17, 18, 19, 20] (by decide) rfl rfl 0 rfl rfl rfl) hl.1 rfl (Nat.le_of_ble_eq_true rfl) dX4_fault_8 ⟨Nat.zero_le _, Nat.zero_le _⟩) hP hD hS hA [1, 2, 3, 4, 5, 6, 7, 8, 9, 10, 11, 12, 13, 14, 15, 16, 17, 18, 19, 20] [0] 21 rfl (fun u => w_X4_fault E a_t a_text a_told a_reader a_tower a_kept a_isKept a_lifts a_seenAt a_seenInches a_ways a_trial a_reader_draft a_reader_numbers a_reader_draft_kind a_reader_draft_weight a_reader_draft_strength a_reader_draft_height a_reader_draft_folk a_reader_draft_mustBeAbove a_reader_draft_wind a_told_kind a_told_weight a_told_strength a_told_height a_told_folk a_told_mustBeAbove a_told_wind a_text_bytes v_liftsMany v_seenMany u.2.2.2.2.2.2.2.2.2.2.2.2.2.2.1 u.2.2.2.2.2.2.2.2.2.2.2.2.2.1 u.2.2.2.2.2.2.2.2.2.2.2.2.1 u.1 u.2.1 u.2.2.1 u.2.2.2.1 u.2.2.2.2.1 v_told_storeys v_told_pairs v_told_bears v_told_soft v_told_cellars v_told_kind u.2.2.2.2.2.1 v_told_weight u.2.2.2.2.2.2.1 v_told_strength u.2.2.2.2.2.2.2.1 v_told_height u.2.2.2.2.2.2.2.2.1 v_told_folk u.2.2.2.2.2.2.2.2.2.1 v_told_mustBeAbove u.2.2.2.2.2.2.2.2.2.2.1 v_told_wind u.2.2.2.2.2.2.2.2.2.2.2.1 v_text_length v_text_bytes u.2.2.2.2.2.2.2.2.2.2.2.2.2.2.2) (fun _ => rfl) (by decide) (fun _ => rfl) (fun _ => rfl) rfl (fun _ => rfl) (fun r1 u H locs hf hP hD hS => ?_)
  obtain ⟨u2, u3, u4, u5, u6, u7, u8, u9, u10, u11, u12, u13, u14, u15, u16, u17⟩ := u
  have hP : va_P E.1 vwCl (w_X4_fault E a_t a_text a_told a_reader a_tower a_kept a_isKept a_lifts a_seenAt a_seenInches a_ways a_trial a_reader_draft a_reader_numbers a_reader_draft_kind a_reader_draft_weight a_reader_draft_strength a_reader_draft_height a_reader_draft_folk a_reader_draft_mustBeAbove a_reader_draft_wind a_told_kind a_told_weight a_told_strength a_told_height a_told_folk a_told_mustBeAbove a_told_wind a_text_bytes v_liftsMany v_seenMany u16 u15 u14 u2 u3 u4 u5 u6 v_told_storeys v_told_pairs v_told_bears v_told_soft v_told_cellars v_told_kind u7 v_told_weight u8 v_told_strength u9 v_told_height u10 v_told_folk u11 v_told_mustBeAbove u12 v_told_wind u13 v_text_length v_text_bytes u17) H := hP
  have hD : va_D A (w_X4_fault E a_t a_text a_told a_reader a_tower a_kept a_isKept a_lifts a_seenAt a_seenInches a_ways a_trial a_reader_draft a_reader_numbers a_reader_draft_kind a_reader_draft_weight a_reader_draft_strength a_reader_draft_height a_reader_draft_folk a_reader_draft_mustBeAbove a_reader_draft_wind a_told_kind a_told_weight a_told_strength a_told_height a_told_folk a_told_mustBeAbove a_told_wind a_text_bytes v_liftsMany v_seenMany u16 u15 u14 u2 u3 u4 u5 u6 v_told_storeys v_told_pairs v_told_bears v_told_soft v_told_cellars v_told_kind u7 v_told_weight u8 v_told_strength u9 v_told_height u10 v_told_folk u11 v_told_mustBeAbove u12 v_told_wind u13 v_text_length v_text_bytes u17) := hD
  exact hRet r1 (u2, u3, u4, u5, u6, u7, u8, u9, u10, u11, u12, u13, u14, u15, u16, u17) 11 ls H locs dX4_fault_11 hf hP hS
theorem c_X4_fault (l : Launch) (E : mx_E) (Z : (Nat → Nat) × (Nat → Nat)) (a_t : Nat) (a_text : Nat) (a_told : Nat) (a_reader : Nat) (a_tower : Nat) (a_kept : Nat) (a_isKept : Nat) (a_lifts : Nat) (a_seenAt : Nat) (a_seenInches : Nat) (a_ways : Nat) (a_trial : Nat) (a_reader_draft : Nat) (a_reader_numbers : Nat) (a_reader_draft_kind : Nat) (a_reader_draft_weight : Nat) (a_reader_draft_strength : Nat) (a_reader_draft_height : Nat) (a_reader_draft_folk : Nat) (a_reader_draft_mustBeAbove : Nat) (a_reader_draft_wind : Nat) (a_told_kind : Nat) (a_told_weight : Nat) (a_told_strength : Nat) (a_told_height : Nat) (a_told_folk : Nat) (a_told_mustBeAbove : Nat) (a_told_wind : Nat) (a_text_bytes : Nat) (v_liftsMany : Int32) (v_seenMany : Int32) (v_reader_lines : Int32) (v_reader_start : Int32) (v_reader_end : Int32) (v_reader_draft_storeys : Int32) (v_reader_draft_pairs : Int32) (v_reader_draft_bears : Int32) (v_reader_draft_soft : Int32) (v_reader_draft_cellars : Int32) (v_told_storeys : Int32) (v_told_pairs : Int32) (v_told_bears : Int32) (v_told_soft : Int32) (v_told_cellars : Int32) (v_told_kind : (Nat → Int32)) (v_reader_draft_kind : (Nat → Int32)) (v_told_weight : (Nat → Int32)) (v_reader_draft_weight : (Nat → Int32)) (v_told_strength : (Nat → Int32)) (v_reader_draft_strength : (Nat → Int32)) (v_told_height : (Nat → Int32)) (v_reader_draft_height : (Nat → Int32)) (v_told_folk : (Nat → Int32)) (v_reader_draft_folk : (Nat → Int32)) (v_told_mustBeAbove : (Nat → Int32)) (v_reader_draft_mustBeAbove : (Nat → Int32)) (v_told_wind : (Nat → Int32)) (v_reader_draft_wind : (Nat → Int32)) (v_text_length : Int32) (v_text_bytes : (Nat → Int32)) (v_reader_numbers : (Nat → Int32)) (sz : Nat)  (post : Int32 → Int32 → Int32 → Int32 → Int32 → Int32 → (Nat → Int32) → (Nat → Int32) → (Nat → Int32) → (Nat → Int32) → (Nat → Int32) → (Nat → Int32) → (Nat → Int32) → Int32 → Int32 → Int32 → (Nat → Int32) → Prop) (hf : f_X4_fault v_told_storeys v_told_pairs v_told_bears v_told_soft v_told_cellars v_told_kind v_told_weight v_told_strength v_told_height v_told_folk v_told_mustBeAbove v_told_wind v_text_length v_text_bytes v_reader_draft_storeys v_reader_draft_pairs v_reader_draft_bears v_reader_draft_soft v_reader_draft_cellars v_reader_draft_kind v_reader_draft_weight v_reader_draft_strength v_reader_draft_height v_reader_draft_folk v_reader_draft_mustBeAbove v_reader_draft_wind v_reader_end v_reader_start v_reader_lines v_reader_numbers post) : Met l yX4_fault (Cond.code yX4_fault cX4_fault 1 (some .int) :: mx_WS) rm_X4_fault (va_Pc [.ref a_t] (mx_Pwz E Z (w_X4_fault E a_t a_text a_told a_reader a_tower a_kept a_isKept a_lifts a_seenAt a_seenInches a_ways a_trial a_reader_draft a_reader_numbers a_reader_draft_kind a_reader_draft_weight a_reader_draft_strength a_reader_draft_height a_reader_draft_folk a_reader_draft_mustBeAbove a_reader_draft_wind a_told_kind a_told_weight a_told_strength a_told_height a_told_folk a_told_mustBeAbove a_told_wind a_text_bytes v_liftsMany v_seenMany v_reader_lines v_reader_start v_reader_end v_reader_draft_storeys v_reader_draft_pairs v_reader_draft_bears v_reader_draft_soft v_reader_draft_cellars v_told_storeys v_told_pairs v_told_bears v_told_soft v_told_cellars v_told_kind v_reader_draft_kind v_told_weight v_reader_draft_weight v_told_strength v_reader_draft_strength v_told_height v_reader_draft_height v_told_folk v_reader_draft_folk v_told_mustBeAbove v_reader_draft_mustBeAbove v_told_wind v_reader_draft_wind v_text_length v_text_bytes v_reader_numbers) sz)) (va_Qi (fun (v : Int32) (u : Int32 × Int32 × Int32 × Int32 × Int32 × (Nat → Int32) × (Nat → Int32) × (Nat → Int32) × (Nat → Int32) × (Nat → Int32) × (Nat → Int32) × (Nat → Int32) × Int32 × Int32 × Int32 × (Nat → Int32)) => post v u.1 u.2.1 u.2.2.1 u.2.2.2.1 u.2.2.2.2.1 u.2.2.2.2.2.1 u.2.2.2.2.2.2.1 u.2.2.2.2.2.2.2.1 u.2.2.2.2.2.2.2.2.1 u.2.2.2.2.2.2.2.2.2.1 u.2.2.2.2.2.2.2.2.2.2.1 u.2.2.2.2.2.2.2.2.2.2.2.1 u.2.2.2.2.2.2.2.2.2.2.2.2.1 u.2.2.2.2.2.2.2.2.2.2.2.2.2.1 u.2.2.2.2.2.2.2.2.2.2.2.2.2.2.1 u.2.2.2.2.2.2.2.2.2.2.2.2.2.2.2) (fun u t => va_P E.1 vwCl (w_X4_fault E a_t a_text a_told a_reader a_tower a_kept a_isKept a_lifts a_seenAt a_seenInches a_ways a_trial a_reader_draft a_reader_numbers a_reader_draft_kind a_reader_draft_weight a_reader_draft_strength a_reader_draft_height a_reader_draft_folk a_reader_draft_mustBeAbove a_reader_draft_wind a_told_kind a_told_weight a_told_strength a_told_height a_told_folk a_told_mustBeAbove a_told_wind a_text_bytes v_liftsMany v_seenMany u.2.2.2.2.2.2.2.2.2.2.2.2.2.2.1 u.2.2.2.2.2.2.2.2.2.2.2.2.2.1 u.2.2.2.2.2.2.2.2.2.2.2.2.1 u.1 u.2.1 u.2.2.1 u.2.2.2.1 u.2.2.2.2.1 v_told_storeys v_told_pairs v_told_bears v_told_soft v_told_cellars v_told_kind u.2.2.2.2.2.1 v_told_weight u.2.2.2.2.2.2.1 v_told_strength u.2.2.2.2.2.2.2.1 v_told_height u.2.2.2.2.2.2.2.2.1 v_told_folk u.2.2.2.2.2.2.2.2.2.1 v_told_mustBeAbove u.2.2.2.2.2.2.2.2.2.2.1 v_told_wind u.2.2.2.2.2.2.2.2.2.2.2.1 v_text_length v_text_bytes u.2.2.2.2.2.2.2.2.2.2.2.2.2.2.2) t.heap) (va_A (w_X4_fault E a_t a_text a_told a_reader a_tower a_kept a_isKept a_lifts a_seenAt a_seenInches a_ways a_trial a_reader_draft a_reader_numbers a_reader_draft_kind a_reader_draft_weight a_reader_draft_strength a_reader_draft_height a_reader_draft_folk a_reader_draft_mustBeAbove a_reader_draft_wind a_told_kind a_told_weight a_told_strength a_told_height a_told_folk a_told_mustBeAbove a_told_wind a_text_bytes v_liftsMany v_seenMany v_reader_lines v_reader_start v_reader_end v_reader_draft_storeys v_reader_draft_pairs v_reader_draft_bears v_reader_draft_soft v_reader_draft_cellars v_told_storeys v_told_pairs v_told_bears v_told_soft v_told_cellars v_told_kind v_reader_draft_kind v_told_weight v_reader_draft_weight v_told_strength v_reader_draft_strength v_told_height v_reader_draft_height v_told_folk v_reader_draft_folk v_told_mustBeAbove v_reader_draft_mustBeAbove v_told_wind v_reader_draft_wind v_text_length v_text_bytes v_reader_numbers) sz)) 0 0 (va_A (w_X4_fault E a_t a_text a_told a_reader a_tower a_kept a_isKept a_lifts a_seenAt a_seenInches a_ways a_trial a_reader_draft a_reader_numbers a_reader_draft_kind a_reader_draft_weight a_reader_draft_strength a_reader_draft_height a_reader_draft_folk a_reader_draft_mustBeAbove a_reader_draft_wind a_told_kind a_told_weight a_told_strength a_told_height a_told_folk a_told_mustBeAbove a_told_wind a_text_bytes v_liftsMany v_seenMany v_reader_lines v_reader_start v_reader_end v_reader_draft_storeys v_reader_draft_pairs v_reader_draft_bears v_reader_draft_soft v_reader_draft_cellars v_told_storeys v_told_pairs v_told_bears v_told_soft v_told_cellars v_told_kind v_reader_draft_kind v_told_weight v_reader_draft_weight v_told_strength v_reader_draft_strength v_told_height v_reader_draft_height v_told_folk v_reader_draft_folk v_told_mustBeAbove v_reader_draft_mustBeAbove v_told_wind v_reader_draft_wind v_text_length v_text_bytes v_reader_numbers) sz) :=
  mx_metWiz (by decide) rfl rfl (fun hB hP hD hA hZ hRet ls hl => b_X4_fault E Z a_t a_text a_told a_reader a_tower a_kept a_isKept a_lifts a_seenAt a_seenInches a_ways a_trial a_reader_draft a_reader_numbers a_reader_draft_kind a_reader_draft_weight a_reader_draft_strength a_reader_draft_height a_reader_draft_folk a_reader_draft_mustBeAbove a_reader_draft_wind a_told_kind a_told_weight a_told_strength a_told_height a_told_folk a_told_mustBeAbove a_told_wind a_text_bytes v_liftsMany v_seenMany v_reader_lines v_reader_start v_reader_end v_reader_draft_storeys v_reader_draft_pairs v_reader_draft_bears v_reader_draft_soft v_reader_draft_cellars v_told_storeys v_told_pairs v_told_bears v_told_soft v_told_cellars v_told_kind v_reader_draft_kind v_told_weight v_reader_draft_weight v_told_strength v_reader_draft_strength v_told_height v_reader_draft_height v_told_folk v_reader_draft_folk v_told_mustBeAbove v_reader_draft_mustBeAbove v_told_wind v_reader_draft_wind v_text_length v_text_bytes v_reader_numbers  post hB hP hD hA hZ hRet hf ls hl)
def rm_X4_storey : Room := { frames := 1, cells := 0, slots := 0, locals := 21 }
set_option maxHeartbeats 4000000 in
set_option maxRecDepth 100000 in
theorem b_X4_storey {p : Program} {l : Launch} {e : Env} {s : State} {m : MethodId} {args : Array Value} {below : List Frame} {meth : Method} {c : Code} {Q : State → Prop} (E : mx_E) (a_t : Nat) (a_text : Nat) (a_told : Nat) (a_reader : Nat) (a_tower : Nat) (a_kept : Nat) (a_isKept : Nat) (a_lifts : Nat) (a_seenAt : Nat) (a_seenInches : Nat) (a_ways : Nat) (a_trial : Nat) (a_told_kind : Nat) (a_told_weight : Nat) (a_told_strength : Nat) (a_told_height : Nat) (a_told_folk : Nat) (a_told_mustBeAbove : Nat) (a_told_wind : Nat) (v_liftsMany : Int32) (v_seenMany : Int32) (v_told_storeys : Int32) (v_told_pairs : Int32) (v_told_bears : Int32) (v_told_soft : Int32) (v_told_cellars : Int32) (v_told_folk : (Nat → Int32)) (v_told_height : (Nat → Int32)) (v_told_strength : (Nat → Int32)) (v_told_weight : (Nat → Int32)) (v_told_kind : (Nat → Int32)) (x1 : Int32) (x2 : Int32) (post : Int32 → Prop) (hB : mx_B p m c cX4_storey 3 s args RX4 E) (hP : va_P E.1 vwCl (w_X4_storey E a_t a_text a_told a_reader a_tower a_kept a_isKept a_lifts a_seenAt a_seenInches a_ways a_trial a_told_kind a_told_weight a_told_strength a_told_height a_told_folk a_told_mustBeAbove a_told_wind v_liftsMany v_seenMany v_told_storeys v_told_pairs v_told_bears v_told_soft v_told_cellars v_told_folk v_told_height v_told_strength v_told_weight v_told_kind) s.heap) (hRet : ∀ (v : Int32) (pc : Nat) (ls : Array Slot), decode cX4_storey pc = .ok (.ireturn, 1) → post v → W p l e rm_X4_storey s m args below meth c s.heap [] 0 0 Q (F0 m pc ls [.int v])) (hf : f_X4_storey v_told_storeys v_told_folk v_told_height v_told_strength v_told_weight v_told_kind x1 x2 post) (ls : Array Slot) (hl : lv_has ls 3 [(0, .ref a_t), (1, .int x1), (2, .int x2)]) : W p l e rm_X4_storey s m args below meth c s.heap [] 0 0 Q (F0 m 0 ls []) := by
  have hx := hB.x
  have hb := hB.b
  refine lv_aload_n hx hb dX4_storey_0 rfl (lv_at hl 0 rfl) ?_
  refine gf_X4_19 hB hP 0 rfl rfl dX4_storey_1 ?_
  refine lv_iload_n hx hb dX4_storey_4 rfl (lv_at hl 1 rfl) ?_
  refine mx_gi (mx_runN (As := [.int x1]) (rest := []) hB (c_X1_has l E a_told a_told_kind a_told_weight a_told_strength a_told_height a_told_folk a_told_mustBeAbove a_told_wind v_told_storeys v_told_pairs v_told_bears v_told_soft v_told_cellars x1 _ hf) sB_X1_has sV_X1_has wmn_X4_96 rfl (mx_ppV hB hP [1] rfl 1 rfl rfl rfl) hl.1 rfl (Nat.le_of_ble_eq_true rfl) dX4_storey_5 ⟨Nat.zero_le _, Nat.zero_le _⟩) (fun r1 hf => ?_)
  refine lv_if_ne (tgt := 14) hx hb dX4_storey_8 (by decide) (fun c8 => ?_) (fun c8 => ?_)
  · have hf := hf.1 c8
    refine lv_iload_n hx hb dX4_storey_14 rfl (lv_at hl 2 rfl) ?_
    by_cases c15_0 : x2 = 0
    · have hf := hf.1 c15_0
      refine lv_tableIn (tgt := 48) hx hb dX4_storey_15 (by rw [c15_0]; decide) (by rw [c15_0]; decide) (by rw [c15_0]; rfl) (by decide) ?_
      refine lv_aload_n hx hb dX4_storey_48 rfl (lv_at hl 0 rfl) ?_
      refine gf_X4_19 hB hP 0 rfl rfl dX4_storey_49 ?_
      refine gf_X4_100 hB hP 1 rfl rfl dX4_storey_52 ?_
      refine lv_iload_n hx hb dX4_storey_55 rfl (lv_at hl 1 rfl) ?_
      obtain ⟨h_in, hf⟩ := hf
      refine va_iald hx hb hB.K hP 6 0 rfl rfl h_in dX4_storey_56 ?_
      exact hRet (v_told_kind x1.toNatClampNeg) 57 ls dX4_storey_57 hf
    · have hf := hf.2 c15_0
      by_cases c15_1 : x2 = 1
      · have hf := hf.1 c15_1
        refine lv_tableIn (tgt := 58) hx hb dX4_storey_15 (by rw [c15_1]; decide) (by rw [c15_1]; decide) (by rw [c15_1]; rfl) (by decide) ?_
        refine lv_aload_n hx hb dX4_storey_58 rfl (lv_at hl 0 rfl) ?_
        refine gf_X4_19 hB hP 0 rfl rfl dX4_storey_59 ?_
        refine gf_X4_103 hB hP 1 rfl rfl dX4_storey_62 ?_
        refine lv_iload_n hx hb dX4_storey_65 rfl (lv_at hl 1 rfl) ?_
        obtain ⟨h_in, hf⟩ := hf
        refine va_iald hx hb hB.K hP 5 0 rfl rfl h_in dX4_storey_66 ?_
        exact hRet (v_told_weight x1.toNatClampNeg) 67 ls dX4_storey_67 hf
      · have hf := hf.2 c15_1
        by_cases c15_2 : x2 = 2
        · have hf := hf.1 c15_2
          refine lv_tableIn (tgt := 68) hx hb dX4_storey_15 (by rw [c15_2]; decide) (by rw [c15_2]; decide) (by rw [c15_2]; rfl) (by decide) ?_
          refine lv_aload_n hx hb dX4_storey_68 rfl (lv_at hl 0 rfl) ?_
          refine gf_X4_19 hB hP 0 rfl rfl dX4_storey_69 ?_
          refine gf_X4_106 hB hP 1 rfl rfl dX4_storey_72 ?_
          refine lv_iload_n hx hb dX4_storey_75 rfl (lv_at hl 1 rfl) ?_
          obtain ⟨h_in, hf⟩ := hf
          refine va_iald hx hb hB.K hP 4 0 rfl rfl h_in dX4_storey_76 ?_
          exact hRet (v_told_strength x1.toNatClampNeg) 77 ls dX4_storey_77 hf
        · have hf := hf.2 c15_2
          by_cases c15_3 : x2 = 3
          · have hf := hf.1 c15_3
            refine lv_tableIn (tgt := 78) hx hb dX4_storey_15 (by rw [c15_3]; decide) (by rw [c15_3]; decide) (by rw [c15_3]; rfl) (by decide) ?_
            refine lv_aload_n hx hb dX4_storey_78 rfl (lv_at hl 0 rfl) ?_
            refine gf_X4_19 hB hP 0 rfl rfl dX4_storey_79 ?_
            refine gf_X4_109 hB hP 1 rfl rfl dX4_storey_82 ?_
            refine lv_iload_n hx hb dX4_storey_85 rfl (lv_at hl 1 rfl) ?_
            obtain ⟨h_in, hf⟩ := hf
            refine va_iald hx hb hB.K hP 3 0 rfl rfl h_in dX4_storey_86 ?_
            exact hRet (v_told_height x1.toNatClampNeg) 87 ls dX4_storey_87 hf
          · have hf := hf.2 c15_3
            by_cases c15_4 : x2 = 4
            · have hf := hf.1 c15_4
              refine lv_tableIn (tgt := 88) hx hb dX4_storey_15 (by rw [c15_4]; decide) (by rw [c15_4]; decide) (by rw [c15_4]; rfl) (by decide) ?_
              refine lv_aload_n hx hb dX4_storey_88 rfl (lv_at hl 0 rfl) ?_
              refine gf_X4_19 hB hP 0 rfl rfl dX4_storey_89 ?_
              refine gf_X4_112 hB hP 1 rfl rfl dX4_storey_92 ?_
              refine lv_iload_n hx hb dX4_storey_95 rfl (lv_at hl 1 rfl) ?_
              obtain ⟨h_in, hf⟩ := hf
              refine va_iald hx hb hB.K hP 2 0 rfl rfl h_in dX4_storey_96 ?_
              exact hRet (v_told_folk x1.toNatClampNeg) 97 ls dX4_storey_97 hf
            · have hf := hf.2 c15_4
              refine lv_tableOut (tgt := 98) hx hb dX4_storey_15 (mx_out 0 4 [0, 1, 2, 3, 4] (List.forall_mem_cons.mpr ⟨c15_0, (List.forall_mem_cons.mpr ⟨c15_1, (List.forall_mem_cons.mpr ⟨c15_2, (List.forall_mem_cons.mpr ⟨c15_3, (List.forall_mem_cons.mpr ⟨c15_4, (fun _ h => absurd h List.not_mem_nil)⟩)⟩)⟩)⟩)⟩) (by decide)) (by decide) ?_
              refine lv_bipush hx hb dX4_storey_98 kc_b_m3 ?_
              exact hRet (-3) 100 ls dX4_storey_100 hf
  · have hf := hf.2 c8
    refine lv_bipush hx hb dX4_storey_11 kc_b_m2 ?_
    exact hRet (-2) 13 ls dX4_storey_13 hf
theorem c_X4_storey (l : Launch) (E : mx_E) (a_t : Nat) (a_text : Nat) (a_told : Nat) (a_reader : Nat) (a_tower : Nat) (a_kept : Nat) (a_isKept : Nat) (a_lifts : Nat) (a_seenAt : Nat) (a_seenInches : Nat) (a_ways : Nat) (a_trial : Nat) (a_told_kind : Nat) (a_told_weight : Nat) (a_told_strength : Nat) (a_told_height : Nat) (a_told_folk : Nat) (a_told_mustBeAbove : Nat) (a_told_wind : Nat) (v_liftsMany : Int32) (v_seenMany : Int32) (v_told_storeys : Int32) (v_told_pairs : Int32) (v_told_bears : Int32) (v_told_soft : Int32) (v_told_cellars : Int32) (v_told_folk : (Nat → Int32)) (v_told_height : (Nat → Int32)) (v_told_strength : (Nat → Int32)) (v_told_weight : (Nat → Int32)) (v_told_kind : (Nat → Int32)) (x1 : Int32) (x2 : Int32) (post : Int32 → Prop) (hf : f_X4_storey v_told_storeys v_told_folk v_told_height v_told_strength v_told_weight v_told_kind x1 x2 post) : Met l yX4_storey (Cond.code yX4_storey cX4_storey 3 (some .int) :: mx_WS) rm_X4_storey (va_Pc [.ref a_t, .int x1, .int x2] (mx_Pp E (w_X4_storey E a_t a_text a_told a_reader a_tower a_kept a_isKept a_lifts a_seenAt a_seenInches a_ways a_trial a_told_kind a_told_weight a_told_strength a_told_height a_told_folk a_told_mustBeAbove a_told_wind v_liftsMany v_seenMany v_told_storeys v_told_pairs v_told_bears v_told_soft v_told_cellars v_told_folk v_told_height v_told_strength v_told_weight v_told_kind))) (vp_Si post) 0 0 (fun _ => False) :=
  mx_metPi (by decide) rfl rfl (fun hB hP hRet ls hl => b_X4_storey E a_t a_text a_told a_reader a_tower a_kept a_isKept a_lifts a_seenAt a_seenInches a_ways a_trial a_told_kind a_told_weight a_told_strength a_told_height a_told_folk a_told_mustBeAbove a_told_wind v_liftsMany v_seenMany v_told_storeys v_told_pairs v_told_bears v_told_soft v_told_cellars v_told_folk v_told_height v_told_strength v_told_weight v_told_kind x1 x2 post hB hP hRet hf ls hl)
def rm_X4_isSuch : Room := { frames := 0, cells := 0, slots := 0, locals := 0 }
set_option maxHeartbeats 4000000 in
set_option maxRecDepth 100000 in
theorem b_X4_isSuch {p : Program} {l : Launch} {e : Env} {s : State} {m : MethodId} {args : Array Value} {below : List Frame} {meth : Method} {c : Code} {Q : State → Prop} (E : mx_E)   (x0 : Int32) (x1 : Int32) (post : Int32 → Prop) (hB : mx_B p m c cX4_isSuch 2 s args RX4 E) (hP : va_P E.1 vwCl (w_X4_isSuch E ) s.heap) (hRet : ∀ (v : Int32) (pc : Nat) (ls : Array Slot), decode cX4_isSuch pc = .ok (.ireturn, 1) → (v = 0 ∨ v = 1) → post v → W p l e rm_X4_isSuch s m args below meth c s.heap [] 0 0 Q (F0 m pc ls [.int v])) (hf : f_X4_isSuch x0 x1 post) (ls : Array Slot) (hl : lv_has ls 2 [(0, .int x0), (1, .int x1)]) : W p l e rm_X4_isSuch s m args below meth c s.heap [] 0 0 Q (F0 m 0 ls []) := by
  have hx := hB.x
  have hb := hB.b
  refine lv_iload_n hx hb dX4_isSuch_0 rfl (lv_at hl 1 rfl) ?_
  refine lv_if_eq (tgt := 11) hx hb dX4_isSuch_1 (by decide) (fun c1 => ?_) (fun c1 => ?_)
  · have hf := hf.1 c1
    refine lv_iconst hx hb dX4_isSuch_11 kc_i_1 ?_
    exact hRet 1 12 ls dX4_isSuch_12 (Or.inr rfl) hf
  · have hf := hf.2 c1
    refine lv_iload_n hx hb dX4_isSuch_4 rfl (lv_at hl 1 rfl) ?_
    refine lv_iload_n hx hb dX4_isSuch_5 rfl (lv_at hl 0 rfl) ?_
    refine lv_iconst hx hb dX4_isSuch_6 kc_i_1 ?_
    refine lv_iadd hx hb dX4_isSuch_7 ?_
    refine lv_icmp_ne (tgt := 13) hx hb dX4_isSuch_8 (by decide) (fun c8 => ?_) (fun c8 => ?_)
    · have hf := hf.1 c8
      refine lv_iload_n hx hb dX4_isSuch_13 rfl (lv_at hl 1 rfl) ?_
      refine lv_iconst hx hb dX4_isSuch_14 kc_i_1 ?_
      refine lv_icmp_ne (tgt := 27) hx hb dX4_isSuch_15 (by decide) (fun c15 => ?_) (fun c15 => ?_)
      · have hf := hf.1 c15
        refine lv_iconst hx hb dX4_isSuch_27 kc_i_0 ?_
        exact hRet 0 28 ls dX4_isSuch_28 (Or.inl rfl) hf
      · have hf := hf.2 c15
        refine lv_iload_n hx hb dX4_isSuch_18 rfl (lv_at hl 0 rfl) ?_
        refine lv_iconst hx hb dX4_isSuch_19 kc_i_3 ?_
        refine lv_icmp_eq (tgt := 27) hx hb dX4_isSuch_20 (by decide) (fun c20 => ?_) (fun c20 => ?_)
        · have hf := hf.1 c20
          refine lv_iconst hx hb dX4_isSuch_27 kc_i_0 ?_
          exact hRet 0 28 ls dX4_isSuch_28 (Or.inl rfl) hf
        · have hf := hf.2 c20
          refine lv_iconst hx hb dX4_isSuch_23 kc_i_1 ?_
          refine lv_goto (tgt := 28) hx hb dX4_isSuch_24 (by decide) ?_
          exact hRet 1 28 ls dX4_isSuch_28 (Or.inr rfl) hf
    · have hf := hf.2 c8
      refine lv_iconst hx hb dX4_isSuch_11 kc_i_1 ?_
      exact hRet 1 12 ls dX4_isSuch_12 (Or.inr rfl) hf
theorem c_X4_isSuch (l : Launch) (E : mx_E)   (x0 : Int32) (x1 : Int32) (post : Int32 → Prop) (hf : f_X4_isSuch x0 x1 post) : Met l yX4_isSuch (Cond.code yX4_isSuch cX4_isSuch 2 (some .boolean) :: mx_WS) rm_X4_isSuch (va_Pc [.int x0, .int x1] (mx_Pp E (w_X4_isSuch E ))) (vp_Si post) 0 0 (fun _ => False) :=
  mx_metPz (by decide) rfl rfl (fun hB hP hRet ls hl => b_X4_isSuch E  x0 x1 post hB hP hRet hf ls hl)
def rm_X4_as : Room := { frames := 1, cells := 0, slots := 0, locals := 23 }
set_option maxHeartbeats 4000000 in
set_option maxRecDepth 100000 in
theorem b_X4_as {p : Program} {l : Launch} {e : Env} {s : State} {m : MethodId} {args : Array Value} {below : List Frame} {meth : Method} {c : Code} {Q : State → Prop} (E : mx_E) (a_t : Nat) (a_text : Nat) (a_told : Nat) (a_reader : Nat) (a_tower : Nat) (a_kept : Nat) (a_isKept : Nat) (a_lifts : Nat) (a_seenAt : Nat) (a_seenInches : Nat) (a_ways : Nat) (a_trial : Nat) (a_told_kind : Nat) (a_told_weight : Nat) (a_told_strength : Nat) (a_told_height : Nat) (a_told_folk : Nat) (a_told_mustBeAbove : Nat) (a_told_wind : Nat) (v_liftsMany : Int32) (v_seenMany : Int32) (v_told_storeys : Int32) (v_told_pairs : Int32) (v_told_bears : Int32) (v_told_soft : Int32) (v_told_cellars : Int32) (v_told_kind : (Nat → Int32)) (v_told_weight : (Nat → Int32)) (v_told_folk : (Nat → Int32)) (x1 : Int32) (x2 : Int32) (post : Int32 → Prop) (hB : mx_B p m c cX4_as 3 s args RX4 E) (hP : va_P E.1 vwCl (w_X4_as E a_t a_text a_told a_reader a_tower a_kept a_isKept a_lifts a_seenAt a_seenInches a_ways a_trial a_told_kind a_told_weight a_told_strength a_told_height a_told_folk a_told_mustBeAbove a_told_wind v_liftsMany v_seenMany v_told_storeys v_told_pairs v_told_bears v_told_soft v_told_cellars v_told_kind v_told_weight v_told_folk) s.heap) (hRet : ∀ (v : Int32) (pc : Nat) (ls : Array Slot), decode cX4_as pc = .ok (.ireturn, 1) → post v → W p l e rm_X4_as s m args below meth c s.heap [] 0 0 Q (F0 m pc ls [.int v])) (hf : f_X4_as v_told_storeys v_told_kind v_told_weight v_told_folk x1 x2 post) (ls : Array Slot) (hl : lv_has ls 3 [(0, .ref a_t), (1, .int x1), (2, .int x2)]) : W p l e rm_X4_as s m args below meth c s.heap [] 0 0 Q (F0 m 0 ls []) := by
  have hx := hB.x
  have hb := hB.b
  refine lv_aload_n hx hb dX4_as_0 rfl (lv_at hl 0 rfl) ?_
  refine gf_X4_19 hB hP 0 rfl rfl dX4_as_1 ?_
  refine lv_iload_n hx hb dX4_as_4 rfl (lv_at hl 1 rfl) ?_
  refine mx_gi (mx_runN (As := [.int x1]) (rest := []) hB (c_X1_has l E a_told a_told_kind a_told_weight a_told_strength a_told_height a_told_folk a_told_mustBeAbove a_told_wind v_told_storeys v_told_pairs v_told_bears v_told_soft v_told_cellars x1 _ hf) sB_X1_has sV_X1_has wmn_X4_96 rfl (mx_ppV hB hP [1] rfl 1 rfl rfl rfl) hl.1 rfl (Nat.le_of_ble_eq_true rfl) dX4_as_5 ⟨Nat.zero_le _, Nat.zero_le _⟩) (fun r1 hf => ?_)
  refine lv_if_ne (tgt := 14) hx hb dX4_as_8 (by decide) (fun c8 => ?_) (fun c8 => ?_)
  · have hf := hf.1 c8
    refine lv_iload_n hx hb dX4_as_14 rfl (lv_at hl 2 rfl) ?_
    refine lv_if_lt (tgt := 23) hx hb dX4_as_15 (by decide) (fun c15 => ?_) (fun c15 => ?_)
    · have hf := hf.1 c15
      refine lv_bipush hx hb dX4_as_23 kc_b_m3 ?_
      exact hRet (-3) 25 ls dX4_as_25 hf
    · have hf := hf.2 c15
      refine lv_iload_n hx hb dX4_as_18 rfl (lv_at hl 2 rfl) ?_
      refine lv_iconst hx hb dX4_as_19 kc_i_4 ?_
      refine lv_icmp_le (tgt := 26) hx hb dX4_as_20 (by decide) (fun c20 => ?_) (fun c20 => ?_)
      · have hf := hf.1 c20
        refine lv_aload_n hx hb dX4_as_26 rfl (lv_at hl 0 rfl) ?_
        refine gf_X4_19 hB hP 0 rfl rfl dX4_as_27 ?_
        refine gf_X4_100 hB hP 1 rfl rfl dX4_as_30 ?_
        refine lv_iload_n hx hb dX4_as_33 rfl (lv_at hl 1 rfl) ?_
        obtain ⟨h_in, hf⟩ := hf
        refine va_iald hx hb hB.K hP 2 0 rfl rfl h_in dX4_as_34 ?_
        refine lv_iload_n hx hb dX4_as_35 rfl (lv_at hl 2 rfl) ?_
        refine mx_gi (mx_runS (As := [.int (v_told_kind x1.toNatClampNeg), .int x2]) (rest := []) hB (c_X4_isSuch l E (v_told_kind x1.toNatClampNeg) x2 _ hf) sB_X4_isSuch wst_X4_isSuch wml_X4_115 rfl (mx_pp hB hP [] rfl) hl.1 rfl (Nat.le_of_ble_eq_true rfl) dX4_as_36 ⟨Nat.zero_le _, Nat.zero_le _⟩) (fun r2 hf => ?_)
        refine lv_if_eq (tgt := 55) hx hb dX4_as_39 (by decide) (fun c39 => ?_) (fun c39 => ?_)
        · have hf := hf.1 c39
          refine lv_bipush hx hb dX4_as_55 kc_b_m4 ?_
          exact hRet (-4) 57 ls dX4_as_57 hf
        · have hf := hf.2 c39
          refine lv_aload_n hx hb dX4_as_42 rfl (lv_at hl 0 rfl) ?_
          refine gf_X4_19 hB hP 0 rfl rfl dX4_as_43 ?_
          refine lv_iconst hx hb dX4_as_46 kc_i_1 ?_
          refine lv_iload_n hx hb dX4_as_47 rfl (lv_at hl 1 rfl) ?_
          refine lv_ishl hx hb dX4_as_48 ?_
          refine mx_gi (mx_runN (As := [.int (1 <<< (x1 &&& 31))]) (rest := []) hB (c_X1_loadOf l E a_told a_told_kind a_told_weight a_told_strength a_told_height a_told_folk a_told_mustBeAbove a_told_wind v_told_storeys v_told_pairs v_told_bears v_told_soft v_told_cellars v_told_weight v_told_folk (1 <<< (x1 &&& 31)) _ hf) sB_X1_loadOf sV_X1_loadOf wmn_X4_119 rfl (mx_ppV hB hP [1, 3, 4] rfl 1 rfl rfl rfl) hl.1 rfl (Nat.le_of_ble_eq_true rfl) dX4_as_49 ⟨Nat.zero_le _, Nat.zero_le _⟩) (fun r3 hf => ?_)
          refine lv_goto (tgt := 57) hx hb dX4_as_52 (by decide) ?_
          exact hRet r3 57 ls dX4_as_57 hf
      · have hf := hf.2 c20
        refine lv_bipush hx hb dX4_as_23 kc_b_m3 ?_
        exact hRet (-3) 25 ls dX4_as_25 hf
  · have hf := hf.2 c8
    refine lv_bipush hx hb dX4_as_11 kc_b_m2 ?_
    exact hRet (-2) 13 ls dX4_as_13 hf
theorem c_X4_as (l : Launch) (E : mx_E) (a_t : Nat) (a_text : Nat) (a_told : Nat) (a_reader : Nat) (a_tower : Nat) (a_kept : Nat) (a_isKept : Nat) (a_lifts : Nat) (a_seenAt : Nat) (a_seenInches : Nat) (a_ways : Nat) (a_trial : Nat) (a_told_kind : Nat) (a_told_weight : Nat) (a_told_strength : Nat) (a_told_height : Nat) (a_told_folk : Nat) (a_told_mustBeAbove : Nat) (a_told_wind : Nat) (v_liftsMany : Int32) (v_seenMany : Int32) (v_told_storeys : Int32) (v_told_pairs : Int32) (v_told_bears : Int32) (v_told_soft : Int32) (v_told_cellars : Int32) (v_told_kind : (Nat → Int32)) (v_told_weight : (Nat → Int32)) (v_told_folk : (Nat → Int32)) (x1 : Int32) (x2 : Int32) (post : Int32 → Prop) (hf : f_X4_as v_told_storeys v_told_kind v_told_weight v_told_folk x1 x2 post) : Met l yX4_as (Cond.code yX4_as cX4_as 3 (some .int) :: mx_WS) rm_X4_as (va_Pc [.ref a_t, .int x1, .int x2] (mx_Pp E (w_X4_as E a_t a_text a_told a_reader a_tower a_kept a_isKept a_lifts a_seenAt a_seenInches a_ways a_trial a_told_kind a_told_weight a_told_strength a_told_height a_told_folk a_told_mustBeAbove a_told_wind v_liftsMany v_seenMany v_told_storeys v_told_pairs v_told_bears v_told_soft v_told_cellars v_told_kind v_told_weight v_told_folk))) (vp_Si post) 0 0 (fun _ => False) :=
  mx_metPi (by decide) rfl rfl (fun hB hP hRet ls hl => b_X4_as E a_t a_text a_told a_reader a_tower a_kept a_isKept a_lifts a_seenAt a_seenInches a_ways a_trial a_told_kind a_told_weight a_told_strength a_told_height a_told_folk a_told_mustBeAbove a_told_wind v_liftsMany v_seenMany v_told_storeys v_told_pairs v_told_bears v_told_soft v_told_cellars v_told_kind v_told_weight v_told_folk x1 x2 post hB hP hRet hf ls hl)
def rm_X4_whyNotToday : Room := { frames := 4, cells := 0, slots := 0, locals := 90 }
set_option maxHeartbeats 4000000 in
set_option maxRecDepth 100000 in
theorem b_X4_whyNotToday {p : Program} {l : Launch} {e : Env} {s : State} {m : MethodId} {args : Array Value} {below : List Frame} {meth : Method} {c : Code} {Q : State → Prop} (E : mx_E) (a_t : Nat) (a_text : Nat) (a_told : Nat) (a_reader : Nat) (a_tower : Nat) (a_kept : Nat) (a_isKept : Nat) (a_lifts : Nat) (a_seenAt : Nat) (a_seenInches : Nat) (a_ways : Nat) (a_trial : Nat) (a_tower_order : Nat) (a_told_kind : Nat) (a_told_weight : Nat) (a_told_strength : Nat) (a_told_height : Nat) (a_told_folk : Nat) (a_told_mustBeAbove : Nat) (a_told_wind : Nat) (v_liftsMany : Int32) (v_seenMany : Int32) (v_tower_many : Int32) (v_tower_day : Int32) (v_tower_order : (Nat → Int32)) (v_told_storeys : Int32) (v_told_pairs : Int32) (v_told_bears : Int32) (v_told_soft : Int32) (v_told_cellars : Int32) (v_told_weight : (Nat → Int32)) (v_told_folk : (Nat → Int32)) (v_told_kind : (Nat → Int32)) (v_told_mustBeAbove : (Nat → Int32)) (v_told_strength : (Nat → Int32)) (v_told_wind : (Nat → Int32)) (x1 : Int32) (post : Int32 → Prop) (hB : mx_B p m c cX4_whyNotToday 2 s args RX4 E) (hP : va_P E.1 vwCl (w_X4_whyNotToday E a_t a_text a_told a_reader a_tower a_kept a_isKept a_lifts a_seenAt a_seenInches a_ways a_trial a_tower_order a_told_kind a_told_weight a_told_strength a_told_height a_told_folk a_told_mustBeAbove a_told_wind v_liftsMany v_seenMany v_tower_many v_tower_day v_tower_order v_told_storeys v_told_pairs v_told_bears v_told_soft v_told_cellars v_told_weight v_told_folk v_told_kind v_told_mustBeAbove v_told_strength v_told_wind) s.heap) (hRet : ∀ (v : Int32) (pc : Nat) (ls : Array Slot), decode cX4_whyNotToday pc = .ok (.ireturn, 1) → post v → W p l e rm_X4_whyNotToday s m args below meth c s.heap [] 0 0 Q (F0 m pc ls [.int v])) (hf : f_X4_whyNotToday v_tower_day v_tower_many v_tower_order v_told_storeys v_told_weight v_told_folk v_told_bears v_told_kind v_told_cellars v_told_mustBeAbove v_told_strength v_told_wind x1 post) (ls : Array Slot) (hl : lv_has ls 2 [(0, .ref a_t), (1, .int x1)]) : W p l e rm_X4_whyNotToday s m args below meth c s.heap [] 0 0 Q (F0 m 0 ls []) := by
  have hx := hB.x
  have hb := hB.b
  refine lv_aload_n hx hb dX4_whyNotToday_0 rfl (lv_at hl 0 rfl) ?_
  refine gf_X4_19 hB hP 0 rfl rfl dX4_whyNotToday_1 ?_
  refine lv_aload_n hx hb dX4_whyNotToday_4 rfl (lv_at hl 0 rfl) ?_
  refine gf_X4_35 hB hP 0 rfl rfl dX4_whyNotToday_5 ?_
  refine gf_X4_126 hB hP 1 rfl rfl dX4_whyNotToday_8 ?_
  refine lv_iload_n hx hb dX4_whyNotToday_11 rfl (lv_at hl 1 rfl) ?_
  refine lv_aload_n hx hb dX4_whyNotToday_12 rfl (lv_at hl 0 rfl) ?_
  refine gf_X4_35 hB hP 0 rfl rfl dX4_whyNotToday_13 ?_
  refine mx_gi (mx_runN (As := []) (rest := [.int x1, .int v_tower_day, .ref a_told]) hB (c_X3_set l E a_tower a_tower_order v_tower_many v_tower_day v_tower_order _ hf) sB_X3_set sV_X3_set wmn_X4_129 rfl (mx_ppV hB hP [1, 2] rfl 3 rfl rfl rfl) hl.1 rfl (Nat.le_of_ble_eq_true rfl) dX4_whyNotToday_16 ⟨Nat.zero_le _, Nat.zero_le _⟩) (fun r1 hf => ?_)
  refine mx_gi (mx_runN (As := [.int v_tower_day, .int x1, .int r1]) (rest := []) hB (c_X1_whyNotOn l E a_told a_told_kind a_told_weight a_told_strength a_told_height a_told_folk a_told_mustBeAbove a_told_wind v_told_storeys v_told_pairs v_told_bears v_told_soft v_told_cellars v_told_weight v_told_folk v_told_kind v_told_mustBeAbove v_told_strength v_told_wind v_tower_day x1 r1 _ hf) sB_X1_whyNotOn sV_X1_whyNotOn wmn_X4_133 rfl (mx_ppV hB hP [3, 4, 5, 6, 7, 8, 9] rfl 1 rfl rfl rfl) hl.1 rfl (Nat.le_of_ble_eq_true rfl) dX4_whyNotToday_19 ⟨Nat.zero_le _, Nat.zero_le _⟩) (fun r2 hf => ?_)
  exact hRet r2 22 ls dX4_whyNotToday_22 hf
theorem c_X4_whyNotToday (l : Launch) (E : mx_E) (a_t : Nat) (a_text : Nat) (a_told : Nat) (a_reader : Nat) (a_tower : Nat) (a_kept : Nat) (a_isKept : Nat) (a_lifts : Nat) (a_seenAt : Nat) (a_seenInches : Nat) (a_ways : Nat) (a_trial : Nat) (a_tower_order : Nat) (a_told_kind : Nat) (a_told_weight : Nat) (a_told_strength : Nat) (a_told_height : Nat) (a_told_folk : Nat) (a_told_mustBeAbove : Nat) (a_told_wind : Nat) (v_liftsMany : Int32) (v_seenMany : Int32) (v_tower_many : Int32) (v_tower_day : Int32) (v_tower_order : (Nat → Int32)) (v_told_storeys : Int32) (v_told_pairs : Int32) (v_told_bears : Int32) (v_told_soft : Int32) (v_told_cellars : Int32) (v_told_weight : (Nat → Int32)) (v_told_folk : (Nat → Int32)) (v_told_kind : (Nat → Int32)) (v_told_mustBeAbove : (Nat → Int32)) (v_told_strength : (Nat → Int32)) (v_told_wind : (Nat → Int32)) (x1 : Int32) (post : Int32 → Prop) (hf : f_X4_whyNotToday v_tower_day v_tower_many v_tower_order v_told_storeys v_told_weight v_told_folk v_told_bears v_told_kind v_told_cellars v_told_mustBeAbove v_told_strength v_told_wind x1 post) : Met l yX4_whyNotToday (Cond.code yX4_whyNotToday cX4_whyNotToday 2 (some .int) :: mx_WS) rm_X4_whyNotToday (va_Pc [.ref a_t, .int x1] (mx_Pp E (w_X4_whyNotToday E a_t a_text a_told a_reader a_tower a_kept a_isKept a_lifts a_seenAt a_seenInches a_ways a_trial a_tower_order a_told_kind a_told_weight a_told_strength a_told_height a_told_folk a_told_mustBeAbove a_told_wind v_liftsMany v_seenMany v_tower_many v_tower_day v_tower_order v_told_storeys v_told_pairs v_told_bears v_told_soft v_told_cellars v_told_weight v_told_folk v_told_kind v_told_mustBeAbove v_told_strength v_told_wind))) (vp_Si post) 0 0 (fun _ => False) :=
  mx_metPi (by decide) rfl rfl (fun hB hP hRet ls hl => b_X4_whyNotToday E a_t a_text a_told a_reader a_tower a_kept a_isKept a_lifts a_seenAt a_seenInches a_ways a_trial a_tower_order a_told_kind a_told_weight a_told_strength a_told_height a_told_folk a_told_mustBeAbove a_told_wind v_liftsMany v_seenMany v_tower_many v_tower_day v_tower_order v_told_storeys v_told_pairs v_told_bears v_told_soft v_told_cellars v_told_weight v_told_folk v_told_kind v_told_mustBeAbove v_told_strength v_told_wind x1 post hB hP hRet hf ls hl)
def rm_X4_why : Room := { frames := 5, cells := 0, slots := 0, locals := 111 }
set_option maxHeartbeats 4000000 in
set_option maxRecDepth 100000 in
theorem b_X4_why {p : Program} {l : Launch} {e : Env} {s : State} {m : MethodId} {args : Array Value} {below : List Frame} {meth : Method} {c : Code} {Q : State → Prop} (E : mx_E) (a_t : Nat) (a_text : Nat) (a_told : Nat) (a_reader : Nat) (a_tower : Nat) (a_kept : Nat) (a_isKept : Nat) (a_lifts : Nat) (a_seenAt : Nat) (a_seenInches : Nat) (a_ways : Nat) (a_trial : Nat) (a_told_kind : Nat) (a_told_weight : Nat) (a_told_strength : Nat) (a_told_height : Nat) (a_told_folk : Nat) (a_told_mustBeAbove : Nat) (a_told_wind : Nat) (a_tower_order : Nat) (v_liftsMany : Int32) (v_seenMany : Int32) (v_told_storeys : Int32) (v_told_pairs : Int32) (v_told_bears : Int32) (v_told_soft : Int32) (v_told_cellars : Int32) (v_tower_many : Int32) (v_tower_day : Int32) (v_tower_order : (Nat → Int32)) (v_told_weight : (Nat → Int32)) (v_told_folk : (Nat → Int32)) (v_told_kind : (Nat → Int32)) (v_told_mustBeAbove : (Nat → Int32)) (v_told_strength : (Nat → Int32)) (v_told_wind : (Nat → Int32)) (x1 : Int32) (post : Int32 → Prop) (hB : mx_B p m c cX4_why 2 s args RX4 E) (hP : va_P E.1 vwCl (w_X4_why E a_t a_text a_told a_reader a_tower a_kept a_isKept a_lifts a_seenAt a_seenInches a_ways a_trial a_told_kind a_told_weight a_told_strength a_told_height a_told_folk a_told_mustBeAbove a_told_wind a_tower_order v_liftsMany v_seenMany v_told_storeys v_told_pairs v_told_bears v_told_soft v_told_cellars v_tower_many v_tower_day v_tower_order v_told_weight v_told_folk v_told_kind v_told_mustBeAbove v_told_strength v_told_wind) s.heap) (hRet : ∀ (v : Int32) (pc : Nat) (ls : Array Slot), decode cX4_why pc = .ok (.ireturn, 1) → post v → W p l e rm_X4_why s m args below meth c s.heap [] 0 0 Q (F0 m pc ls [.int v])) (hf : f_X4_why v_told_storeys v_tower_day v_tower_many v_tower_order v_told_weight v_told_folk v_told_bears v_told_kind v_told_cellars v_told_mustBeAbove v_told_strength v_told_wind x1 post) (ls : Array Slot) (hl : lv_has ls 2 [(0, .ref a_t), (1, .int x1)]) : W p l e rm_X4_why s m args below meth c s.heap [] 0 0 Q (F0 m 0 ls []) := by
  have hx := hB.x
  have hb := hB.b
  refine lv_aload_n hx hb dX4_why_0 rfl (lv_at hl 0 rfl) ?_
  refine gf_X4_19 hB hP 0 rfl rfl dX4_why_1 ?_
  refine lv_iload_n hx hb dX4_why_4 rfl (lv_at hl 1 rfl) ?_
  refine mx_gi (mx_runN (As := [.int x1]) (rest := []) hB (c_X1_has l E a_told a_told_kind a_told_weight a_told_strength a_told_height a_told_folk a_told_mustBeAbove a_told_wind v_told_storeys v_told_pairs v_told_bears v_told_soft v_told_cellars x1 _ hf) sB_X1_has sV_X1_has wmn_X4_96 rfl (mx_ppV hB hP [1] rfl 1 rfl rfl rfl) hl.1 rfl (Nat.le_of_ble_eq_true rfl) dX4_why_5 ⟨Nat.zero_le _, Nat.zero_le _⟩) (fun r1 hf => ?_)
  refine lv_if_eq (tgt := 19) hx hb dX4_why_8 (by decide) (fun c8 => ?_) (fun c8 => ?_)
  · have hf := hf.1 c8
    refine lv_bipush hx hb dX4_why_19 kc_b_m2 ?_
    exact hRet (-2) 21 ls dX4_why_21 hf
  · have hf := hf.2 c8
    refine lv_aload_n hx hb dX4_why_11 rfl (lv_at hl 0 rfl) ?_
    refine lv_iload_n hx hb dX4_why_12 rfl (lv_at hl 1 rfl) ?_
    refine mx_gi (mx_runV (As := [.int x1]) (rest := []) hB (c_X4_whyNotToday l E a_t a_text a_told a_reader a_tower a_kept a_isKept a_lifts a_seenAt a_seenInches a_ways a_trial a_tower_order a_told_kind a_told_weight a_told_strength a_told_height a_told_folk a_told_mustBeAbove a_told_wind v_liftsMany v_seenMany v_tower_many v_tower_day v_tower_order v_told_storeys v_told_pairs v_told_bears v_told_soft v_told_cellars v_told_weight v_told_folk v_told_kind v_told_mustBeAbove v_told_strength v_told_wind x1 _ hf) sB_X4_whyNotToday sV_X4_whyNotToday wml_X4_123 rfl (mx_ppV hB hP [0, 2, 3, 1, 4, 5, 6, 7, 8, 9] rfl 4 rfl rfl rfl) hl.1 rfl (Nat.le_of_ble_eq_true rfl) dX4_why_13 ⟨Nat.zero_le _, Nat.zero_le _⟩) (fun r2 hf => ?_)
    refine lv_goto (tgt := 21) hx hb dX4_why_16 (by decide) ?_
    exact hRet r2 21 ls dX4_why_21 hf
theorem c_X4_why (l : Launch) (E : mx_E) (a_t : Nat) (a_text : Nat) (a_told : Nat) (a_reader : Nat) (a_tower : Nat) (a_kept : Nat) (a_isKept : Nat) (a_lifts : Nat) (a_seenAt : Nat) (a_seenInches : Nat) (a_ways : Nat) (a_trial : Nat) (a_told_kind : Nat) (a_told_weight : Nat) (a_told_strength : Nat) (a_told_height : Nat) (a_told_folk : Nat) (a_told_mustBeAbove : Nat) (a_told_wind : Nat) (a_tower_order : Nat) (v_liftsMany : Int32) (v_seenMany : Int32) (v_told_storeys : Int32) (v_told_pairs : Int32) (v_told_bears : Int32) (v_told_soft : Int32) (v_told_cellars : Int32) (v_tower_many : Int32) (v_tower_day : Int32) (v_tower_order : (Nat → Int32)) (v_told_weight : (Nat → Int32)) (v_told_folk : (Nat → Int32)) (v_told_kind : (Nat → Int32)) (v_told_mustBeAbove : (Nat → Int32)) (v_told_strength : (Nat → Int32)) (v_told_wind : (Nat → Int32)) (x1 : Int32) (post : Int32 → Prop) (hf : f_X4_why v_told_storeys v_tower_day v_tower_many v_tower_order v_told_weight v_told_folk v_told_bears v_told_kind v_told_cellars v_told_mustBeAbove v_told_strength v_told_wind x1 post) : Met l yX4_why (Cond.code yX4_why cX4_why 2 (some .int) :: mx_WS) rm_X4_why (va_Pc [.ref a_t, .int x1] (mx_Pp E (w_X4_why E a_t a_text a_told a_reader a_tower a_kept a_isKept a_lifts a_seenAt a_seenInches a_ways a_trial a_told_kind a_told_weight a_told_strength a_told_height a_told_folk a_told_mustBeAbove a_told_wind a_tower_order v_liftsMany v_seenMany v_told_storeys v_told_pairs v_told_bears v_told_soft v_told_cellars v_tower_many v_tower_day v_tower_order v_told_weight v_told_folk v_told_kind v_told_mustBeAbove v_told_strength v_told_wind))) (vp_Si post) 0 0 (fun _ => False) :=
  mx_metPi (by decide) rfl rfl (fun hB hP hRet ls hl => b_X4_why E a_t a_text a_told a_reader a_tower a_kept a_isKept a_lifts a_seenAt a_seenInches a_ways a_trial a_told_kind a_told_weight a_told_strength a_told_height a_told_folk a_told_mustBeAbove a_told_wind a_tower_order v_liftsMany v_seenMany v_told_storeys v_told_pairs v_told_bears v_told_soft v_told_cellars v_tower_many v_tower_day v_tower_order v_told_weight v_told_folk v_told_kind v_told_mustBeAbove v_told_strength v_told_wind x1 post hB hP hRet hf ls hl)
def rm_X4_lift : Room := { frames := 5, cells := 0, slots := 0, locals := 111 }
set_option maxHeartbeats 4000000 in
set_option maxRecDepth 100000 in
theorem b_X4_lift {p : Program} {l : Launch} {e : Env} {s : State} {m : MethodId} {args : Array Value} {below : List Frame} {meth : Method} {c : Code} {Q : State → Prop} {A : Nat → Prop} (E : mx_E) (a_t : Nat) (a_text : Nat) (a_told : Nat) (a_reader : Nat) (a_tower : Nat) (a_kept : Nat) (a_isKept : Nat) (a_lifts : Nat) (a_seenAt : Nat) (a_seenInches : Nat) (a_ways : Nat) (a_trial : Nat) (a_told_kind : Nat) (a_told_weight : Nat) (a_told_strength : Nat) (a_told_height : Nat) (a_told_folk : Nat) (a_told_mustBeAbove : Nat) (a_told_wind : Nat) (a_tower_order : Nat) (v_liftsMany : Int32) (v_seenMany : Int32) (v_told_storeys : Int32) (v_told_pairs : Int32) (v_told_bears : Int32) (v_told_soft : Int32) (v_told_cellars : Int32) (v_tower_many : Int32) (v_tower_day : Int32) (v_tower_order : (Nat → Int32)) (v_told_weight : (Nat → Int32)) (v_told_folk : (Nat → Int32)) (v_told_kind : (Nat → Int32)) (v_told_mustBeAbove : (Nat → Int32)) (v_told_strength : (Nat → Int32)) (v_told_wind : (Nat → Int32)) (x1 : Int32) (post : Int32 → (Nat → Int32) → Int32 → Int32 → Prop) (hB : mx_B p m c cX4_lift 2 s args RX4 E) (hP : va_P E.1 vwCl (w_X4_lift E a_t a_text a_told a_reader a_tower a_kept a_isKept a_lifts a_seenAt a_seenInches a_ways a_trial a_told_kind a_told_weight a_told_strength a_told_height a_told_folk a_told_mustBeAbove a_told_wind a_tower_order v_liftsMany v_seenMany v_told_storeys v_told_pairs v_told_bears v_told_soft v_told_cellars v_tower_many v_tower_day v_tower_order v_told_weight v_told_folk v_told_kind v_told_mustBeAbove v_told_strength v_told_wind) s.heap) (hD : va_D A (w_X4_lift E a_t a_text a_told a_reader a_tower a_kept a_isKept a_lifts a_seenAt a_seenInches a_ways a_trial a_told_kind a_told_weight a_told_strength a_told_height a_told_folk a_told_mustBeAbove a_told_wind a_tower_order v_liftsMany v_seenMany v_told_storeys v_told_pairs v_told_bears v_told_soft v_told_cellars v_tower_many v_tower_day v_tower_order v_told_weight v_told_folk v_told_kind v_told_mustBeAbove v_told_strength v_told_wind)) (hA : ∀ q : Nat, s.heap.size ≤ q → A q) (hRet : ∀ (v : Int32) (u : (Nat → Int32) × Int32 × Int32) (pc : Nat) (ls : Array Slot) (H : Heap) (locs : List Loc), decode cX4_lift pc = .ok (.ireturn, 1) → post v u.1 u.2.1 u.2.2 → va_P E.1 vwCl (w_X4_lift E a_t a_text a_told a_reader a_tower a_kept a_isKept a_lifts a_seenAt a_seenInches a_ways a_trial a_told_kind a_told_weight a_told_strength a_told_height a_told_folk a_told_mustBeAbove a_told_wind a_tower_order v_liftsMany v_seenMany v_told_storeys v_told_pairs v_told_bears v_told_soft v_told_cellars u.2.1 u.2.2 u.1 v_told_weight v_told_folk v_told_kind v_told_mustBeAbove v_told_strength v_told_wind) H → va_S A s.heap H locs → W p l e rm_X4_lift s m args below meth c H locs 0 0 Q (F0 m pc ls [.int v])) (hf : f_X4_lift v_told_storeys v_told_weight v_told_folk v_told_bears v_told_kind v_told_cellars v_told_mustBeAbove v_told_strength v_told_wind v_tower_order v_tower_many v_tower_day x1 post) (ls : Array Slot) (hl : lv_has ls 2 [(0, .ref a_t), (1, .int x1)]) : W p l e rm_X4_lift s m args below meth c s.heap [] 0 0 Q (F0 m 0 ls []) := by
  have hx := hB.x
  have hb := hB.b
  have hS : va_S A s.heap s.heap [] := va_S.rf
  obtain ⟨H, locs, eH, eL⟩ : ∃ (H : Heap) (locs : List Loc), H = s.heap ∧ locs = [] := ⟨_, _, rfl, rfl⟩
  rw [← eH] at hP
  have hS : va_S A s.heap H locs := by rw [eH, eL]; exact hS
  show W p l e rm_X4_lift s m args below meth c s.heap [] 0 0 Q (F0 m 0 ls [])
  rw [← eH, ← eL]
  refine lv_aload_n hx hb dX4_lift_0 rfl (lv_at hl 0 rfl) ?_
  refine gf_X4_19 hB hP 0 rfl rfl dX4_lift_1 ?_
  refine lv_iload_n hx hb dX4_lift_4 rfl (lv_at hl 1 rfl) ?_
  refine mx_gi (mx_runN (As := [.int x1]) (rest := []) hB (c_X1_has l E a_told a_told_kind a_told_weight a_told_strength a_told_height a_told_folk a_told_mustBeAbove a_told_wind v_told_storeys v_told_pairs v_told_bears v_told_soft v_told_cellars x1 _ hf) sB_X1_has sV_X1_has wmn_X4_96 rfl (mx_ppV hB hP [1] rfl 1 rfl rfl rfl) hl.1 rfl (Nat.le_of_ble_eq_true rfl) dX4_lift_5 ⟨Nat.zero_le _, Nat.zero_le _⟩) (fun r1 hf => ?_)
  refine lv_if_ne (tgt := 14) hx hb dX4_lift_8 (by decide) (fun c8 => ?_) (fun c8 => ?_)
  · have hf := hf.1 c8
    refine lv_aload_n hx hb dX4_lift_14 rfl (lv_at hl 0 rfl) ?_
    refine lv_iload_n hx hb dX4_lift_15 rfl (lv_at hl 1 rfl) ?_
    refine mx_gi (mx_runV (As := [.int x1]) (rest := []) hB (c_X4_whyNotToday l E a_t a_text a_told a_reader a_tower a_kept a_isKept a_lifts a_seenAt a_seenInches a_ways a_trial a_tower_order a_told_kind a_told_weight a_told_strength a_told_height a_told_folk a_told_mustBeAbove a_told_wind v_liftsMany v_seenMany v_tower_many v_tower_day v_tower_order v_told_storeys v_told_pairs v_told_bears v_told_soft v_told_cellars v_told_weight v_told_folk v_told_kind v_told_mustBeAbove v_told_strength v_told_wind x1 _ hf) sB_X4_whyNotToday sV_X4_whyNotToday wml_X4_123 rfl (mx_ppV hB hP [0, 2, 3, 1, 4, 5, 6, 7, 8, 9] rfl 4 rfl rfl rfl) hl.1 rfl (Nat.le_of_ble_eq_true rfl) dX4_lift_16 ⟨Nat.zero_le _, Nat.zero_le _⟩) (fun r2 hf => ?_)
    refine lv_if_eq (tgt := 25) hx hb dX4_lift_19 (by decide) (fun c19 => ?_) (fun c19 => ?_)
    · have hf := hf.1 c19
      refine lv_aload_n hx hb dX4_lift_25 rfl (lv_at hl 0 rfl) ?_
      refine gf_X4_35 hB hP 0 rfl rfl dX4_lift_26 ?_
      refine gf_X4_126 hB hP 2 rfl rfl dX4_lift_29 ?_
      refine lv_sipush hx hb dX4_lift_32 kc_s_9999 ?_
      refine lv_icmp_lt (tgt := 41) hx hb dX4_lift_35 (by decide) (fun c35 => ?_) (fun c35 => ?_)
      · have hf := hf.1 c35
        refine lv_aload_n hx hb dX4_lift_41 rfl (lv_at hl 0 rfl) ?_
        refine gf_X4_35 hB hP 0 rfl rfl dX4_lift_42 ?_
        refine lv_iload_n hx hb dX4_lift_45 rfl (lv_at hl 1 rfl) ?_
        refine mx_wv (mx_runN (As := [.int x1]) (rest := []) hB (c_X3_setBelow l E a_tower a_tower_order v_tower_many v_tower_day v_tower_order H.size x1 _ hf) sB_X3_setBelow sV_X3_setBelow wmn_X4_137 rfl (mx_pwV hB hP hD [2, 3] (by decide) rfl rfl 3 rfl rfl rfl) hl.1 rfl (Nat.le_of_ble_eq_true rfl) dX4_lift_46 ⟨Nat.zero_le _, Nat.zero_le _⟩) hP hD hS hA [2, 3] [0, 1, 4, 5, 6, 7, 8, 9] 10 rfl (fun u => w_X4_lift E a_t a_text a_told a_reader a_tower a_kept a_isKept a_lifts a_seenAt a_seenInches a_ways a_trial a_told_kind a_told_weight a_told_strength a_told_height a_told_folk a_told_mustBeAbove a_told_wind a_tower_order v_liftsMany v_seenMany v_told_storeys v_told_pairs v_told_bears v_told_soft v_told_cellars u.2 v_tower_day u.1 v_told_weight v_told_folk v_told_kind v_told_mustBeAbove v_told_strength v_told_wind) (fun _ => rfl) (by decide) (fun _ => rfl) (fun _ => rfl) rfl (fun _ => rfl) (fun u H locs hf hP hD hS => ?_)
        obtain ⟨u4, u5⟩ := u
        have hP : va_P E.1 vwCl (w_X4_lift E a_t a_text a_told a_reader a_tower a_kept a_isKept a_lifts a_seenAt a_seenInches a_ways a_trial a_told_kind a_told_weight a_told_strength a_told_height a_told_folk a_told_mustBeAbove a_told_wind a_tower_order v_liftsMany v_seenMany v_told_storeys v_told_pairs v_told_bears v_told_soft v_told_cellars u5 v_tower_day u4 v_told_weight v_told_folk v_told_kind v_told_mustBeAbove v_told_strength v_told_wind) H := hP
        have hD : va_D A (w_X4_lift E a_t a_text a_told a_reader a_tower a_kept a_isKept a_lifts a_seenAt a_seenInches a_ways a_trial a_told_kind a_told_weight a_told_strength a_told_height a_told_folk a_told_mustBeAbove a_told_wind a_tower_order v_liftsMany v_seenMany v_told_storeys v_told_pairs v_told_bears v_told_soft v_told_cellars u5 v_tower_day u4 v_told_weight v_told_folk v_told_kind v_told_mustBeAbove v_told_strength v_told_wind) := hD
        refine lv_aload_n hx hb dX4_lift_49 rfl (lv_at hl 0 rfl) ?_
        refine gf_X4_35 hB hP 0 rfl rfl dX4_lift_50 ?_
        refine lv_dup hx hb dX4_lift_53 rfl ?_
        refine gf_X4_126 hB hP 2 rfl rfl dX4_lift_54 ?_
        refine lv_iconst hx hb dX4_lift_57 kc_i_1 ?_
        refine lv_iadd hx hb dX4_lift_58 ?_
        refine pf_X4_126 hB hP hD hS 2 rfl (Nat.le_of_ble_eq_true rfl) dX4_lift_59 (w_X4_lift E a_t a_text a_told a_reader a_tower a_kept a_isKept a_lifts a_seenAt a_seenInches a_ways a_trial a_told_kind a_told_weight a_told_strength a_told_height a_told_folk a_told_mustBeAbove a_told_wind a_tower_order v_liftsMany v_seenMany v_told_storeys v_told_pairs v_told_bears v_told_soft v_told_cellars u5 (v_tower_day + 1) u4 v_told_weight v_told_folk v_told_kind v_told_mustBeAbove v_told_strength v_told_wind) rfl (fun H locs hP hD hS => ?_)
        refine lv_aload_n hx hb dX4_lift_62 rfl (lv_at hl 0 rfl) ?_
        refine gf_X4_35 hB hP 0 rfl rfl dX4_lift_63 ?_
        refine gf_X4_140 hB hP 2 rfl rfl dX4_lift_66 ?_
        exact hRet u5 (u4, u5, v_tower_day + 1) 69 ls H locs dX4_lift_69 hf hP hS
      · have hf := hf.2 c35
        refine lv_bipush hx hb dX4_lift_38 kc_b_m5 ?_
        exact hRet (-5) (v_tower_order, v_tower_many, v_tower_day) 40 ls H locs dX4_lift_40 hf hP hS
    · have hf := hf.2 c19
      refine lv_bipush hx hb dX4_lift_22 kc_b_m4 ?_
      exact hRet (-4) (v_tower_order, v_tower_many, v_tower_day) 24 ls H locs dX4_lift_24 hf hP hS
  · have hf := hf.2 c8
    refine lv_bipush hx hb dX4_lift_11 kc_b_m2 ?_
    exact hRet (-2) (v_tower_order, v_tower_many, v_tower_day) 13 ls H locs dX4_lift_13 hf hP hS
theorem c_X4_lift (l : Launch) (E : mx_E) (a_t : Nat) (a_text : Nat) (a_told : Nat) (a_reader : Nat) (a_tower : Nat) (a_kept : Nat) (a_isKept : Nat) (a_lifts : Nat) (a_seenAt : Nat) (a_seenInches : Nat) (a_ways : Nat) (a_trial : Nat) (a_told_kind : Nat) (a_told_weight : Nat) (a_told_strength : Nat) (a_told_height : Nat) (a_told_folk : Nat) (a_told_mustBeAbove : Nat) (a_told_wind : Nat) (a_tower_order : Nat) (v_liftsMany : Int32) (v_seenMany : Int32) (v_told_storeys : Int32) (v_told_pairs : Int32) (v_told_bears : Int32) (v_told_soft : Int32) (v_told_cellars : Int32) (v_tower_many : Int32) (v_tower_day : Int32) (v_tower_order : (Nat → Int32)) (v_told_weight : (Nat → Int32)) (v_told_folk : (Nat → Int32)) (v_told_kind : (Nat → Int32)) (v_told_mustBeAbove : (Nat → Int32)) (v_told_strength : (Nat → Int32)) (v_told_wind : (Nat → Int32)) (sz : Nat) (x1 : Int32) (post : Int32 → (Nat → Int32) → Int32 → Int32 → Prop) (hf : f_X4_lift v_told_storeys v_told_weight v_told_folk v_told_bears v_told_kind v_told_cellars v_told_mustBeAbove v_told_strength v_told_wind v_tower_order v_tower_many v_tower_day x1 post) : Met l yX4_lift (Cond.code yX4_lift cX4_lift 2 (some .int) :: mx_WS) rm_X4_lift (va_Pc [.ref a_t, .int x1] (mx_Pw E (w_X4_lift E a_t a_text a_told a_reader a_tower a_kept a_isKept a_lifts a_seenAt a_seenInches a_ways a_trial a_told_kind a_told_weight a_told_strength a_told_height a_told_folk a_told_mustBeAbove a_told_wind a_tower_order v_liftsMany v_seenMany v_told_storeys v_told_pairs v_told_bears v_told_soft v_told_cellars v_tower_many v_tower_day v_tower_order v_told_weight v_told_folk v_told_kind v_told_mustBeAbove v_told_strength v_told_wind) sz)) (va_Qi (fun (v : Int32) (u : (Nat → Int32) × Int32 × Int32) => post v u.1 u.2.1 u.2.2) (fun u t => va_P E.1 vwCl (w_X4_lift E a_t a_text a_told a_reader a_tower a_kept a_isKept a_lifts a_seenAt a_seenInches a_ways a_trial a_told_kind a_told_weight a_told_strength a_told_height a_told_folk a_told_mustBeAbove a_told_wind a_tower_order v_liftsMany v_seenMany v_told_storeys v_told_pairs v_told_bears v_told_soft v_told_cellars u.2.1 u.2.2 u.1 v_told_weight v_told_folk v_told_kind v_told_mustBeAbove v_told_strength v_told_wind) t.heap) (va_A (w_X4_lift E a_t a_text a_told a_reader a_tower a_kept a_isKept a_lifts a_seenAt a_seenInches a_ways a_trial a_told_kind a_told_weight a_told_strength a_told_height a_told_folk a_told_mustBeAbove a_told_wind a_tower_order v_liftsMany v_seenMany v_told_storeys v_told_pairs v_told_bears v_told_soft v_told_cellars v_tower_many v_tower_day v_tower_order v_told_weight v_told_folk v_told_kind v_told_mustBeAbove v_told_strength v_told_wind) sz)) 0 0 (va_A (w_X4_lift E a_t a_text a_told a_reader a_tower a_kept a_isKept a_lifts a_seenAt a_seenInches a_ways a_trial a_told_kind a_told_weight a_told_strength a_told_height a_told_folk a_told_mustBeAbove a_told_wind a_tower_order v_liftsMany v_seenMany v_told_storeys v_told_pairs v_told_bears v_told_soft v_told_cellars v_tower_many v_tower_day v_tower_order v_told_weight v_told_folk v_told_kind v_told_mustBeAbove v_told_strength v_told_wind) sz) :=
  mx_metWi (by decide) rfl rfl (fun hB hP hD hA hRet ls hl => b_X4_lift E a_t a_text a_told a_reader a_tower a_kept a_isKept a_lifts a_seenAt a_seenInches a_ways a_trial a_told_kind a_told_weight a_told_strength a_told_height a_told_folk a_told_mustBeAbove a_told_wind a_tower_order v_liftsMany v_seenMany v_told_storeys v_told_pairs v_told_bears v_told_soft v_told_cellars v_tower_many v_tower_day v_tower_order v_told_weight v_told_folk v_told_kind v_told_mustBeAbove v_told_strength v_told_wind x1 post hB hP hD hA hRet hf ls hl)
def rm_X4_rest : Room := { frames := 0, cells := 0, slots := 0, locals := 0 }
set_option maxHeartbeats 4000000 in
set_option maxRecDepth 100000 in
theorem b_X4_rest {p : Program} {l : Launch} {e : Env} {s : State} {m : MethodId} {args : Array Value} {below : List Frame} {meth : Method} {c : Code} {Q : State → Prop} {A : Nat → Prop} (E : mx_E) (a_t : Nat) (a_text : Nat) (a_told : Nat) (a_reader : Nat) (a_tower : Nat) (a_kept : Nat) (a_isKept : Nat) (a_lifts : Nat) (a_seenAt : Nat) (a_seenInches : Nat) (a_ways : Nat) (a_trial : Nat) (a_tower_order : Nat) (v_liftsMany : Int32) (v_seenMany : Int32) (v_tower_many : Int32) (v_tower_day : Int32) (x1 : Int32) (post : Int32 → Int32 → Prop) (hB : mx_B p m c cX4_rest 2 s args RX4 E) (hP : va_P E.1 vwCl (w_X4_rest E a_t a_text a_told a_reader a_tower a_kept a_isKept a_lifts a_seenAt a_seenInches a_ways a_trial a_tower_order v_liftsMany v_seenMany v_tower_many v_tower_day) s.heap) (hD : va_D A (w_X4_rest E a_t a_text a_told a_reader a_tower a_kept a_isKept a_lifts a_seenAt a_seenInches a_ways a_trial a_tower_order v_liftsMany v_seenMany v_tower_many v_tower_day)) (hA : ∀ q : Nat, s.heap.size ≤ q → A q) (hRet : ∀ (v : Int32) (u : Int32) (pc : Nat) (ls : Array Slot) (H : Heap) (locs : List Loc), decode cX4_rest pc = .ok (.ireturn, 1) → post v u → va_P E.1 vwCl (w_X4_rest E a_t a_text a_told a_reader a_tower a_kept a_isKept a_lifts a_seenAt a_seenInches a_ways a_trial a_tower_order v_liftsMany v_seenMany v_tower_many u) H → va_S A s.heap H locs → W p l e rm_X4_rest s m args below meth c H locs 0 0 Q (F0 m pc ls [.int v])) (hf : f_X4_rest v_tower_day x1 post) (ls : Array Slot) (hl : lv_has ls 2 [(0, .ref a_t), (1, .int x1)]) : W p l e rm_X4_rest s m args below meth c s.heap [] 0 0 Q (F0 m 0 ls []) := by
  have hx := hB.x
  have hb := hB.b
  have hS : va_S A s.heap s.heap [] := va_S.rf
  obtain ⟨H, locs, eH, eL⟩ : ∃ (H : Heap) (locs : List Loc), H = s.heap ∧ locs = [] := ⟨_, _, rfl, rfl⟩
  rw [← eH] at hP
  have hS : va_S A s.heap H locs := by rw [eH, eL]; exact hS
  show W p l e rm_X4_rest s m args below meth c s.heap [] 0 0 Q (F0 m 0 ls [])
  rw [← eH, ← eL]
  refine lv_iload_n hx hb dX4_rest_0 rfl (lv_at hl 1 rfl) ?_
  refine lv_iconst hx hb dX4_rest_1 kc_i_1 ?_
  refine lv_icmp_lt (tgt := 11) hx hb dX4_rest_2 (by decide) (fun c2 => ?_) (fun c2 => ?_)
  · have hf := hf.1 c2
    refine lv_bipush hx hb dX4_rest_11 kc_b_m3 ?_
    exact hRet (-3) v_tower_day 13 ls H locs dX4_rest_13 hf hP hS
  · have hf := hf.2 c2
    refine lv_iload_n hx hb dX4_rest_5 rfl (lv_at hl 1 rfl) ?_
    refine lv_bipush hx hb dX4_rest_6 kc_b_99 ?_
    refine lv_icmp_le (tgt := 14) hx hb dX4_rest_8 (by decide) (fun c8 => ?_) (fun c8 => ?_)
    · have hf := hf.1 c8
      refine lv_aload_n hx hb dX4_rest_14 rfl (lv_at hl 0 rfl) ?_
      refine gf_X4_35 hB hP 0 rfl rfl dX4_rest_15 ?_
      refine gf_X4_126 hB hP 1 rfl rfl dX4_rest_18 ?_
      refine lv_iload_n hx hb dX4_rest_21 rfl (lv_at hl 1 rfl) ?_
      refine lv_iadd hx hb dX4_rest_22 ?_
      refine lv_sipush hx hb dX4_rest_23 kc_s_9999 ?_
      refine lv_icmp_le (tgt := 32) hx hb dX4_rest_26 (by decide) (fun c26 => ?_) (fun c26 => ?_)
      · have hf := hf.1 c26
        refine lv_aload_n hx hb dX4_rest_32 rfl (lv_at hl 0 rfl) ?_
        refine gf_X4_35 hB hP 0 rfl rfl dX4_rest_33 ?_
        refine lv_dup hx hb dX4_rest_36 rfl ?_
        refine gf_X4_126 hB hP 1 rfl rfl dX4_rest_37 ?_
        refine lv_iload_n hx hb dX4_rest_40 rfl (lv_at hl 1 rfl) ?_
        refine lv_iadd hx hb dX4_rest_41 ?_
        refine pf_X4_126 hB hP hD hS 1 rfl (Nat.le_of_ble_eq_true rfl) dX4_rest_42 (w_X4_rest E a_t a_text a_told a_reader a_tower a_kept a_isKept a_lifts a_seenAt a_seenInches a_ways a_trial a_tower_order v_liftsMany v_seenMany v_tower_many (v_tower_day + x1)) rfl (fun H locs hP hD hS => ?_)
        refine lv_aload_n hx hb dX4_rest_45 rfl (lv_at hl 0 rfl) ?_
        refine gf_X4_35 hB hP 0 rfl rfl dX4_rest_46 ?_
        refine gf_X4_126 hB hP 1 rfl rfl dX4_rest_49 ?_
        exact hRet (v_tower_day + x1) (v_tower_day + x1) 52 ls H locs dX4_rest_52 hf hP hS
      · have hf := hf.2 c26
        refine lv_bipush hx hb dX4_rest_29 kc_b_m5 ?_
        exact hRet (-5) v_tower_day 31 ls H locs dX4_rest_31 hf hP hS
    · have hf := hf.2 c8
      refine lv_bipush hx hb dX4_rest_11 kc_b_m3 ?_
      exact hRet (-3) v_tower_day 13 ls H locs dX4_rest_13 hf hP hS
theorem c_X4_rest (l : Launch) (E : mx_E) (a_t : Nat) (a_text : Nat) (a_told : Nat) (a_reader : Nat) (a_tower : Nat) (a_kept : Nat) (a_isKept : Nat) (a_lifts : Nat) (a_seenAt : Nat) (a_seenInches : Nat) (a_ways : Nat) (a_trial : Nat) (a_tower_order : Nat) (v_liftsMany : Int32) (v_seenMany : Int32) (v_tower_many : Int32) (v_tower_day : Int32) (sz : Nat) (x1 : Int32) (post : Int32 → Int32 → Prop) (hf : f_X4_rest v_tower_day x1 post) : Met l yX4_rest (Cond.code yX4_rest cX4_rest 2 (some .int) :: mx_WS) rm_X4_rest (va_Pc [.ref a_t, .int x1] (mx_Pw E (w_X4_rest E a_t a_text a_told a_reader a_tower a_kept a_isKept a_lifts a_seenAt a_seenInches a_ways a_trial a_tower_order v_liftsMany v_seenMany v_tower_many v_tower_day) sz)) (va_Qi (fun (v : Int32) (u : Int32) => post v u) (fun u t => va_P E.1 vwCl (w_X4_rest E a_t a_text a_told a_reader a_tower a_kept a_isKept a_lifts a_seenAt a_seenInches a_ways a_trial a_tower_order v_liftsMany v_seenMany v_tower_many u) t.heap) (va_A (w_X4_rest E a_t a_text a_told a_reader a_tower a_kept a_isKept a_lifts a_seenAt a_seenInches a_ways a_trial a_tower_order v_liftsMany v_seenMany v_tower_many v_tower_day) sz)) 0 0 (va_A (w_X4_rest E a_t a_text a_told a_reader a_tower a_kept a_isKept a_lifts a_seenAt a_seenInches a_ways a_trial a_tower_order v_liftsMany v_seenMany v_tower_many v_tower_day) sz) :=
  mx_metWi (by decide) rfl rfl (fun hB hP hD hA hRet ls hl => b_X4_rest E a_t a_text a_told a_reader a_tower a_kept a_isKept a_lifts a_seenAt a_seenInches a_ways a_trial a_tower_order v_liftsMany v_seenMany v_tower_many v_tower_day x1 post hB hP hD hA hRet hf ls hl)
def rm_X4_up : Room := { frames := 0, cells := 0, slots := 0, locals := 0 }
set_option maxHeartbeats 4000000 in
set_option maxRecDepth 100000 in
theorem b_X4_up {p : Program} {l : Launch} {e : Env} {s : State} {m : MethodId} {args : Array Value} {below : List Frame} {meth : Method} {c : Code} {Q : State → Prop} (E : mx_E) (a_t : Nat) (a_text : Nat) (a_told : Nat) (a_reader : Nat) (a_tower : Nat) (a_kept : Nat) (a_isKept : Nat) (a_lifts : Nat) (a_seenAt : Nat) (a_seenInches : Nat) (a_ways : Nat) (a_trial : Nat) (a_tower_order : Nat) (v_liftsMany : Int32) (v_seenMany : Int32) (v_tower_many : Int32) (v_tower_day : Int32) (v_tower_order : (Nat → Int32)) (x1 : Int32) (post : Int32 → Prop) (hB : mx_B p m c cX4_up 2 s args RX4 E) (hP : va_P E.1 vwCl (w_X4_up E a_t a_text a_told a_reader a_tower a_kept a_isKept a_lifts a_seenAt a_seenInches a_ways a_trial a_tower_order v_liftsMany v_seenMany v_tower_many v_tower_day v_tower_order) s.heap) (hRet : ∀ (v : Int32) (pc : Nat) (ls : Array Slot), decode cX4_up pc = .ok (.ireturn, 1) → post v → W p l e rm_X4_up s m args below meth c s.heap [] 0 0 Q (F0 m pc ls [.int v])) (hf : f_X4_up v_tower_many v_tower_order x1 post) (ls : Array Slot) (hl : lv_has ls 2 [(0, .ref a_t), (1, .int x1)]) : W p l e rm_X4_up s m args below meth c s.heap [] 0 0 Q (F0 m 0 ls []) := by
  have hx := hB.x
  have hb := hB.b
  refine lv_iload_n hx hb dX4_up_0 rfl (lv_at hl 1 rfl) ?_
  refine lv_if_ge (tgt := 7) hx hb dX4_up_1 (by decide) (fun c1 => ?_) (fun c1 => ?_)
  · have hf := hf.1 c1
    refine lv_iload_n hx hb dX4_up_7 rfl (lv_at hl 1 rfl) ?_
    refine lv_aload_n hx hb dX4_up_8 rfl (lv_at hl 0 rfl) ?_
    refine gf_X4_35 hB hP 0 rfl rfl dX4_up_9 ?_
    refine gf_X4_140 hB hP 1 rfl rfl dX4_up_12 ?_
    refine lv_icmp_ge (tgt := 30) hx hb dX4_up_15 (by decide) (fun c15 => ?_) (fun c15 => ?_)
    · have hf := hf.1 c15
      refine lv_iconst hx hb dX4_up_30 kc_i_m1 ?_
      exact hRet (-1) 31 ls dX4_up_31 hf
    · have hf := hf.2 c15
      refine lv_aload_n hx hb dX4_up_18 rfl (lv_at hl 0 rfl) ?_
      refine gf_X4_35 hB hP 0 rfl rfl dX4_up_19 ?_
      refine gf_X4_143 hB hP 1 rfl rfl dX4_up_22 ?_
      refine lv_iload_n hx hb dX4_up_25 rfl (lv_at hl 1 rfl) ?_
      obtain ⟨h_in, hf⟩ := hf
      refine va_iald hx hb hB.K hP 2 0 rfl rfl h_in dX4_up_26 ?_
      refine lv_goto (tgt := 31) hx hb dX4_up_27 (by decide) ?_
      exact hRet (v_tower_order x1.toNatClampNeg) 31 ls dX4_up_31 hf
  · have hf := hf.2 c1
    refine lv_bipush hx hb dX4_up_4 kc_b_m3 ?_
    exact hRet (-3) 6 ls dX4_up_6 hf
theorem c_X4_up (l : Launch) (E : mx_E) (a_t : Nat) (a_text : Nat) (a_told : Nat) (a_reader : Nat) (a_tower : Nat) (a_kept : Nat) (a_isKept : Nat) (a_lifts : Nat) (a_seenAt : Nat) (a_seenInches : Nat) (a_ways : Nat) (a_trial : Nat) (a_tower_order : Nat) (v_liftsMany : Int32) (v_seenMany : Int32) (v_tower_many : Int32) (v_tower_day : Int32) (v_tower_order : (Nat → Int32)) (x1 : Int32) (post : Int32 → Prop) (hf : f_X4_up v_tower_many v_tower_order x1 post) : Met l yX4_up (Cond.code yX4_up cX4_up 2 (some .int) :: mx_WS) rm_X4_up (va_Pc [.ref a_t, .int x1] (mx_Pp E (w_X4_up E a_t a_text a_told a_reader a_tower a_kept a_isKept a_lifts a_seenAt a_seenInches a_ways a_trial a_tower_order v_liftsMany v_seenMany v_tower_many v_tower_day v_tower_order))) (vp_Si post) 0 0 (fun _ => False) :=
  mx_metPi (by decide) rfl rfl (fun hB hP hRet ls hl => b_X4_up E a_t a_text a_told a_reader a_tower a_kept a_isKept a_lifts a_seenAt a_seenInches a_ways a_trial a_tower_order v_liftsMany v_seenMany v_tower_many v_tower_day v_tower_order x1 post hB hP hRet hf ls hl)
def rm_X4_floor : Room := { frames := 2, cells := 0, slots := 0, locals := 43 }
set_option maxHeartbeats 4000000 in
set_option maxRecDepth 100000 in
theorem b_X4_floor {p : Program} {l : Launch} {e : Env} {s : State} {m : MethodId} {args : Array Value} {below : List Frame} {meth : Method} {c : Code} {Q : State → Prop} (E : mx_E) (a_t : Nat) (a_text : Nat) (a_told : Nat) (a_reader : Nat) (a_tower : Nat) (a_kept : Nat) (a_isKept : Nat) (a_lifts : Nat) (a_seenAt : Nat) (a_seenInches : Nat) (a_ways : Nat) (a_trial : Nat) (a_told_kind : Nat) (a_told_weight : Nat) (a_told_strength : Nat) (a_told_height : Nat) (a_told_folk : Nat) (a_told_mustBeAbove : Nat) (a_told_wind : Nat) (a_tower_order : Nat) (v_liftsMany : Int32) (v_seenMany : Int32) (v_told_storeys : Int32) (v_told_pairs : Int32) (v_told_bears : Int32) (v_told_soft : Int32) (v_told_cellars : Int32) (v_tower_many : Int32) (v_tower_day : Int32) (v_tower_order : (Nat → Int32)) (v_told_height : (Nat → Int32)) (x1 : Int32) (post : Int32 → Prop) (hB : mx_B p m c cX4_floor 3 s args RX4 E) (hP : va_P E.1 vwCl (w_X4_floor E a_t a_text a_told a_reader a_tower a_kept a_isKept a_lifts a_seenAt a_seenInches a_ways a_trial a_told_kind a_told_weight a_told_strength a_told_height a_told_folk a_told_mustBeAbove a_told_wind a_tower_order v_liftsMany v_seenMany v_told_storeys v_told_pairs v_told_bears v_told_soft v_told_cellars v_tower_many v_tower_day v_tower_order v_told_height) s.heap) (hRet : ∀ (v : Int32) (pc : Nat) (ls : Array Slot), decode cX4_floor pc = .ok (.ireturn, 1) → post v → W p l e rm_X4_floor s m args below meth c s.heap [] 0 0 Q (F0 m pc ls [.int v])) (hf : f_X4_floor v_told_storeys v_tower_many v_tower_order v_told_height x1 post) (ls : Array Slot) (hl : lv_has ls 3 [(0, .ref a_t), (1, .int x1)]) : W p l e rm_X4_floor s m args below meth c s.heap [] 0 0 Q (F0 m 0 ls []) := by
  have hx := hB.x
  have hb := hB.b
  refine lv_aload_n hx hb dX4_floor_0 rfl (lv_at hl 0 rfl) ?_
  refine gf_X4_19 hB hP 0 rfl rfl dX4_floor_1 ?_
  refine lv_iload_n hx hb dX4_floor_4 rfl (lv_at hl 1 rfl) ?_
  refine mx_gi (mx_runN (As := [.int x1]) (rest := []) hB (c_X1_has l E a_told a_told_kind a_told_weight a_told_strength a_told_height a_told_folk a_told_mustBeAbove a_told_wind v_told_storeys v_told_pairs v_told_bears v_told_soft v_told_cellars x1 _ hf) sB_X1_has sV_X1_has wmn_X4_96 rfl (mx_ppV hB hP [1] rfl 1 rfl rfl rfl) hl.1 rfl (Nat.le_of_ble_eq_true rfl) dX4_floor_5 ⟨Nat.zero_le _, Nat.zero_le _⟩) (fun r1 hf => ?_)
  refine lv_if_ne (tgt := 14) hx hb dX4_floor_8 (by decide) (fun c8 => ?_) (fun c8 => ?_)
  · have hf := hf.1 c8
    refine lv_aload_n hx hb dX4_floor_14 rfl (lv_at hl 0 rfl) ?_
    refine gf_X4_35 hB hP 0 rfl rfl dX4_floor_15 ?_
    refine lv_iload_n hx hb dX4_floor_18 rfl (lv_at hl 1 rfl) ?_
    refine mx_gi (mx_runN (As := [.int x1]) (rest := []) hB (c_X3_placeOf l E a_tower a_tower_order v_tower_many v_tower_day v_tower_order x1 _ hf) sB_X3_placeOf sV_X3_placeOf wmn_X4_146 rfl (mx_ppV hB hP [2, 3] rfl 3 rfl rfl rfl) hl.1 rfl (Nat.le_of_ble_eq_true rfl) dX4_floor_19 ⟨Nat.zero_le _, Nat.zero_le _⟩) (fun r2 hf => ?_)
    refine lv_istore_n (lv' := [(2, .int r2), (0, .ref a_t), (1, .int x1)]) hx hb dX4_floor_22 rfl hl (by decide) rfl (fun ls hl => ?_)
    refine lv_iload_n hx hb dX4_floor_23 rfl (lv_at hl 0 rfl) ?_
    refine lv_iconst hx hb dX4_floor_24 kc_i_m1 ?_
    refine lv_icmp_ne (tgt := 30) hx hb dX4_floor_25 (by decide) (fun c25 => ?_) (fun c25 => ?_)
    · have hf := hf.1 c25
      refine lv_aload_n hx hb dX4_floor_30 rfl (lv_at hl 1 rfl) ?_
      refine gf_X4_19 hB hP 0 rfl rfl dX4_floor_31 ?_
      refine lv_aload_n hx hb dX4_floor_34 rfl (lv_at hl 1 rfl) ?_
      refine gf_X4_35 hB hP 0 rfl rfl dX4_floor_35 ?_
      refine mx_gi (mx_runN (As := []) (rest := [.ref a_told]) hB (c_X3_set l E a_tower a_tower_order v_tower_many v_tower_day v_tower_order _ hf) sB_X3_set sV_X3_set wmn_X4_129 rfl (mx_ppV hB hP [2, 3] rfl 3 rfl rfl rfl) hl.1 rfl (Nat.le_of_ble_eq_true rfl) dX4_floor_38 ⟨Nat.zero_le _, Nat.zero_le _⟩) (fun r3 hf => ?_)
      refine lv_aload_n hx hb dX4_floor_41 rfl (lv_at hl 1 rfl) ?_
      refine gf_X4_35 hB hP 0 rfl rfl dX4_floor_42 ?_
      refine lv_iload_n hx hb dX4_floor_45 rfl (lv_at hl 0 rfl) ?_
      refine lv_iconst hx hb dX4_floor_46 kc_i_1 ?_
      refine lv_iadd hx hb dX4_floor_47 ?_
      refine mx_gi (mx_runN (As := [.int (r2 + 1)]) (rest := [.int r3, .ref a_told]) hB (c_X3_firstOnes l E a_tower a_tower_order v_tower_many v_tower_day v_tower_order (r2 + 1) _ hf) sB_X3_firstOnes sV_X3_firstOnes wmn_X4_149 rfl (mx_ppV hB hP [2, 3] rfl 3 rfl rfl rfl) hl.1 rfl (Nat.le_of_ble_eq_true rfl) dX4_floor_48 ⟨Nat.zero_le _, Nat.zero_le _⟩) (fun r4 hf => ?_)
      refine lv_iconst hx hb dX4_floor_51 kc_i_m1 ?_
      refine lv_ixor hx hb dX4_floor_52 ?_
      refine lv_iand hx hb dX4_floor_53 ?_
      refine mx_gi (mx_runN (As := [.int (r3 &&& (r4 ^^^ (-1)))]) (rest := []) hB (c_X1_heightOf l E a_told a_told_kind a_told_weight a_told_strength a_told_height a_told_folk a_told_mustBeAbove a_told_wind v_told_storeys v_told_pairs v_told_bears v_told_soft v_told_cellars v_told_height (r3 &&& (r4 ^^^ (-1))) _ hf) sB_X1_heightOf sV_X1_heightOf wmn_X4_152 rfl (mx_ppV hB hP [1, 4] rfl 1 rfl rfl rfl) hl.1 rfl (Nat.le_of_ble_eq_true rfl) dX4_floor_54 ⟨Nat.zero_le _, Nat.zero_le _⟩) (fun r5 hf => ?_)
      exact hRet r5 57 ls dX4_floor_57 hf
    · have hf := hf.2 c25
      refine lv_iconst hx hb dX4_floor_28 kc_i_m1 ?_
      exact hRet (-1) 29 ls dX4_floor_29 hf
  · have hf := hf.2 c8
    refine lv_bipush hx hb dX4_floor_11 kc_b_m2 ?_
    exact hRet (-2) 13 ls dX4_floor_13 hf
theorem c_X4_floor (l : Launch) (E : mx_E) (a_t : Nat) (a_text : Nat) (a_told : Nat) (a_reader : Nat) (a_tower : Nat) (a_kept : Nat) (a_isKept : Nat) (a_lifts : Nat) (a_seenAt : Nat) (a_seenInches : Nat) (a_ways : Nat) (a_trial : Nat) (a_told_kind : Nat) (a_told_weight : Nat) (a_told_strength : Nat) (a_told_height : Nat) (a_told_folk : Nat) (a_told_mustBeAbove : Nat) (a_told_wind : Nat) (a_tower_order : Nat) (v_liftsMany : Int32) (v_seenMany : Int32) (v_told_storeys : Int32) (v_told_pairs : Int32) (v_told_bears : Int32) (v_told_soft : Int32) (v_told_cellars : Int32) (v_tower_many : Int32) (v_tower_day : Int32) (v_tower_order : (Nat → Int32)) (v_told_height : (Nat → Int32)) (x1 : Int32) (post : Int32 → Prop) (hf : f_X4_floor v_told_storeys v_tower_many v_tower_order v_told_height x1 post) : Met l yX4_floor (Cond.code yX4_floor cX4_floor 3 (some .int) :: mx_WS) rm_X4_floor (va_Pc [.ref a_t, .int x1] (mx_Pp E (w_X4_floor E a_t a_text a_told a_reader a_tower a_kept a_isKept a_lifts a_seenAt a_seenInches a_ways a_trial a_told_kind a_told_weight a_told_strength a_told_height a_told_folk a_told_mustBeAbove a_told_wind a_tower_order v_liftsMany v_seenMany v_told_storeys v_told_pairs v_told_bears v_told_soft v_told_cellars v_tower_many v_tower_day v_tower_order v_told_height))) (vp_Si post) 0 0 (fun _ => False) :=
  mx_metPi (by decide) rfl rfl (fun hB hP hRet ls hl => b_X4_floor E a_t a_text a_told a_reader a_tower a_kept a_isKept a_lifts a_seenAt a_seenInches a_ways a_trial a_told_kind a_told_weight a_told_strength a_told_height a_told_folk a_told_mustBeAbove a_told_wind a_tower_order v_liftsMany v_seenMany v_told_storeys v_told_pairs v_told_bears v_told_soft v_told_cellars v_tower_many v_tower_day v_tower_order v_told_height x1 post hB hP hRet hf ls hl)
def rm_X4_hasKeepAt : Room := { frames := 0, cells := 0, slots := 0, locals := 0 }
set_option maxHeartbeats 4000000 in
set_option maxRecDepth 100000 in
theorem b_X4_hasKeepAt {p : Program} {l : Launch} {e : Env} {s : State} {m : MethodId} {args : Array Value} {below : List Frame} {meth : Method} {c : Code} {Q : State → Prop} (E : mx_E) (a_t : Nat) (a_text : Nat) (a_told : Nat) (a_reader : Nat) (a_tower : Nat) (a_kept : Nat) (a_isKept : Nat) (a_lifts : Nat) (a_seenAt : Nat) (a_seenInches : Nat) (a_ways : Nat) (a_trial : Nat) (a_kept_k0 : Nat) (a_kept_k1 : Nat) (v_liftsMany : Int32) (v_seenMany : Int32) (x1 : Int32) (post : Int32 → Prop) (hB : mx_B p m c cX4_hasKeepAt 2 s args RX4 E) (hP : va_P E.1 vwCl (w_X4_hasKeepAt E a_t a_text a_told a_reader a_tower a_kept a_isKept a_lifts a_seenAt a_seenInches a_ways a_trial a_kept_k0 a_kept_k1 v_liftsMany v_seenMany) s.heap) (hRet : ∀ (v : Int32) (pc : Nat) (ls : Array Slot), decode cX4_hasKeepAt pc = .ok (.ireturn, 1) → (v = 0 ∨ v = 1) → post v → W p l e rm_X4_hasKeepAt s m args below meth c s.heap [] 0 0 Q (F0 m pc ls [.int v])) (hf : f_X4_hasKeepAt x1 post) (ls : Array Slot) (hl : lv_has ls 2 [(0, .ref a_t), (1, .int x1)]) : W p l e rm_X4_hasKeepAt s m args below meth c s.heap [] 0 0 Q (F0 m 0 ls []) := by
  have hx := hB.x
  have hb := hB.b
  refine lv_iload_n hx hb dX4_hasKeepAt_0 rfl (lv_at hl 1 rfl) ?_
  refine lv_if_lt (tgt := 22) hx hb dX4_hasKeepAt_1 (by decide) (fun c1 => ?_) (fun c1 => ?_)
  · have hf := hf.1 c1
    refine lv_iconst hx hb dX4_hasKeepAt_22 kc_i_0 ?_
    exact hRet 0 23 ls dX4_hasKeepAt_23 (Or.inl rfl) hf
  · have hf := hf.2 c1
    refine lv_iload_n hx hb dX4_hasKeepAt_4 rfl (lv_at hl 1 rfl) ?_
    refine lv_iconst hx hb dX4_hasKeepAt_5 kc_i_2 ?_
    refine lv_icmp_ge (tgt := 22) hx hb dX4_hasKeepAt_6 (by decide) (fun c6 => ?_) (fun c6 => ?_)
    · have hf := hf.1 c6
      refine lv_iconst hx hb dX4_hasKeepAt_22 kc_i_0 ?_
      exact hRet 0 23 ls dX4_hasKeepAt_23 (Or.inl rfl) hf
    · have hf := hf.2 c6
      refine lv_aload_n hx hb dX4_hasKeepAt_9 rfl (lv_at hl 0 rfl) ?_
      refine gf_X4_39 hB hP 0 rfl rfl dX4_hasKeepAt_10 ?_
      refine lv_iload_n hx hb dX4_hasKeepAt_13 rfl (lv_at hl 1 rfl) ?_
      obtain ⟨h_in, hf⟩ := hf
      refine mx_ald2 hx hb hB.K hP 1 3 rfl rfl h_in dX4_hasKeepAt_14 (fun c14 => ?_) (fun c14 => ?_)
      · have hf := hf.1 c14
        refine lv_ifnull hx hb dX4_hasKeepAt_15 ?_
        refine lv_iconst hx hb dX4_hasKeepAt_18 kc_i_1 ?_
        refine lv_goto (tgt := 23) hx hb dX4_hasKeepAt_19 (by decide) ?_
        exact hRet 1 23 ls dX4_hasKeepAt_23 (Or.inr rfl) hf
      · have hf := hf.2 c14
        refine lv_ifnull hx hb dX4_hasKeepAt_15 ?_
        refine lv_iconst hx hb dX4_hasKeepAt_18 kc_i_1 ?_
        refine lv_goto (tgt := 23) hx hb dX4_hasKeepAt_19 (by decide) ?_
        exact hRet 1 23 ls dX4_hasKeepAt_23 (Or.inr rfl) hf
theorem c_X4_hasKeepAt (l : Launch) (E : mx_E) (a_t : Nat) (a_text : Nat) (a_told : Nat) (a_reader : Nat) (a_tower : Nat) (a_kept : Nat) (a_isKept : Nat) (a_lifts : Nat) (a_seenAt : Nat) (a_seenInches : Nat) (a_ways : Nat) (a_trial : Nat) (a_kept_k0 : Nat) (a_kept_k1 : Nat) (v_liftsMany : Int32) (v_seenMany : Int32) (x1 : Int32) (post : Int32 → Prop) (hf : f_X4_hasKeepAt x1 post) : Met l yX4_hasKeepAt (Cond.code yX4_hasKeepAt cX4_hasKeepAt 2 (some .boolean) :: mx_WS) rm_X4_hasKeepAt (va_Pc [.ref a_t, .int x1] (mx_Pp E (w_X4_hasKeepAt E a_t a_text a_told a_reader a_tower a_kept a_isKept a_lifts a_seenAt a_seenInches a_ways a_trial a_kept_k0 a_kept_k1 v_liftsMany v_seenMany))) (vp_Si post) 0 0 (fun _ => False) :=
  mx_metPz (by decide) rfl rfl (fun hB hP hRet ls hl => b_X4_hasKeepAt E a_t a_text a_told a_reader a_tower a_kept a_isKept a_lifts a_seenAt a_seenInches a_ways a_trial a_kept_k0 a_kept_k1 v_liftsMany v_seenMany x1 post hB hP hRet hf ls hl)
def rm_X4_keep : Room := { frames := 2, cells := 0, slots := 0, locals := 61 }
set_option maxHeartbeats 4000000 in
set_option maxRecDepth 100000 in
theorem b_X4_keep {p : Program} {l : Launch} {e : Env} {s : State} {m : MethodId} {args : Array Value} {below : List Frame} {meth : Method} {c : Code} {Q : State → Prop} {A : Nat → Prop} (E : mx_E) (a_t : Nat) (a_text : Nat) (a_told : Nat) (a_reader : Nat) (a_tower : Nat) (a_kept : Nat) (a_isKept : Nat) (a_lifts : Nat) (a_seenAt : Nat) (a_seenInches : Nat) (a_ways : Nat) (a_trial : Nat) (a_kept_k0 : Nat) (a_kept_k1 : Nat) (a_kept_k0_order : Nat) (a_tower_order : Nat) (a_kept_k1_order : Nat) (v_liftsMany : Int32) (v_seenMany : Int32) (v_kept_k0_many : Int32) (v_kept_k0_day : Int32) (v_tower_many : Int32) (v_tower_day : Int32) (v_tower_order : (Nat → Int32)) (v_kept_k0_order : (Nat → Int32)) (v_isKept : (Nat → Int32)) (v_kept_k1_many : Int32) (v_kept_k1_day : Int32) (v_kept_k1_order : (Nat → Int32)) (x1 : Int32) (post : Int32 → Int32 → Int32 → (Nat → Int32) → (Nat → Int32) → Int32 → Int32 → (Nat → Int32) → Prop) (hB : mx_B p m c cX4_keep 2 s args RX4 E) (hP : va_P E.1 vwCl (w_X4_keep E a_t a_text a_told a_reader a_tower a_kept a_isKept a_lifts a_seenAt a_seenInches a_ways a_trial a_kept_k0 a_kept_k1 a_kept_k0_order a_tower_order a_kept_k1_order v_liftsMany v_seenMany v_kept_k0_many v_kept_k0_day v_tower_many v_tower_day v_tower_order v_kept_k0_order v_isKept v_kept_k1_many v_kept_k1_day v_kept_k1_order) s.heap) (hD : va_D A (w_X4_keep E a_t a_text a_told a_reader a_tower a_kept a_isKept a_lifts a_seenAt a_seenInches a_ways a_trial a_kept_k0 a_kept_k1 a_kept_k0_order a_tower_order a_kept_k1_order v_liftsMany v_seenMany v_kept_k0_many v_kept_k0_day v_tower_many v_tower_day v_tower_order v_kept_k0_order v_isKept v_kept_k1_many v_kept_k1_day v_kept_k1_order)) (hA : ∀ q : Nat, s.heap.size ≤ q → A q) (hRet : ∀ (v : Int32) (u : Int32 × Int32 × (Nat → Int32) × (Nat → Int32) × Int32 × Int32 × (Nat → Int32)) (pc : Nat) (ls : Array Slot) (H : Heap) (locs : List Loc), decode cX4_keep pc = .ok (.ireturn, 1) → post v u.1 u.2.1 u.2.2.1 u.2.2.2.1 u.2.2.2.2.1 u.2.2.2.2.2.1 u.2.2.2.2.2.2 → va_P E.1 vwCl (w_X4_keep E a_t a_text a_told a_reader a_tower a_kept a_isKept a_lifts a_seenAt a_seenInches a_ways a_trial a_kept_k0 a_kept_k1 a_kept_k0_order a_tower_order a_kept_k1_order v_liftsMany v_seenMany u.1 u.2.1 v_tower_many v_tower_day v_tower_order u.2.2.1 u.2.2.2.1 u.2.2.2.2.1 u.2.2.2.2.2.1 u.2.2.2.2.2.2) H → va_S A s.heap H locs → W p l e rm_X4_keep s m args below meth c H locs 0 0 Q (F0 m pc ls [.int v])) (hf : f_X4_keep v_tower_many v_tower_day v_tower_order v_kept_k0_many v_kept_k0_day v_kept_k0_order v_isKept v_kept_k1_many v_kept_k1_day v_kept_k1_order x1 post) (ls : Array Slot) (hl : lv_has ls 2 [(0, .ref a_t), (1, .int x1)]) : W p l e rm_X4_keep s m args below meth c s.heap [] 0 0 Q (F0 m 0 ls []) := by
  have hx := hB.x
  have hb := hB.b
  have hS : va_S A s.heap s.heap [] := va_S.rf
  obtain ⟨H, locs, eH, eL⟩ : ∃ (H : Heap) (locs : List Loc), H = s.heap ∧ locs = [] := ⟨_, _, rfl, rfl⟩
  rw [← eH] at hP
  have hS : va_S A s.heap H locs := by rw [eH, eL]; exact hS
  show W p l e rm_X4_keep s m args below meth c s.heap [] 0 0 Q (F0 m 0 ls [])
  rw [← eH, ← eL]
  refine lv_aload_n hx hb dX4_keep_0 rfl (lv_at hl 0 rfl) ?_
  refine lv_iload_n hx hb dX4_keep_1 rfl (lv_at hl 1 rfl) ?_
  refine mx_gi (mx_runV (As := [.int x1]) (rest := []) hB (c_X4_hasKeepAt l E a_t a_text a_told a_reader a_tower a_kept a_isKept a_lifts a_seenAt a_seenInches a_ways a_trial a_kept_k0 a_kept_k1 v_liftsMany v_seenMany x1 _ hf) sB_X4_hasKeepAt sV_X4_hasKeepAt wml_X4_155 rfl (mx_ppV hB hP [0, 1] rfl 4 rfl rfl rfl) hl.1 rfl (Nat.le_of_ble_eq_true rfl) dX4_keep_2 ⟨Nat.zero_le _, Nat.zero_le _⟩) (fun r1 hf => ?_)
  refine lv_if_ne (tgt := 11) hx hb dX4_keep_5 (by decide) (fun c5 => ?_) (fun c5 => ?_)
  · have hf := hf.1 c5
    refine lv_aload_n hx hb dX4_keep_11 rfl (lv_at hl 0 rfl) ?_
    refine gf_X4_39 hB hP 0 rfl rfl dX4_keep_12 ?_
    refine lv_iload_n hx hb dX4_keep_15 rfl (lv_at hl 1 rfl) ?_
    obtain ⟨h_in, hf⟩ := hf
    refine mx_ald2 hx hb hB.K hP 1 3 rfl rfl h_in dX4_keep_16 (fun c16 => ?_) (fun c16 => ?_)
    · have hf := hf.1 c16
      refine lv_aload_n hx hb dX4_keep_17 rfl (lv_at hl 0 rfl) ?_
      refine gf_X4_35 hB hP 0 rfl rfl dX4_keep_18 ?_
      refine mx_wv (mx_runN (As := [.ref a_tower]) (rest := []) hB (c_X3_copyFrom l E a_kept_k0 a_kept_k0_order a_tower a_tower_order v_kept_k0_many v_kept_k0_day v_tower_many v_tower_day v_tower_order v_kept_k0_order H.size  _ hf) sB_X3_copyFrom sV_X3_copyFrom wmn_X4_158 rfl (mx_pwV hB hP hD [2, 3, 4, 5] (by decide) rfl rfl 3 rfl rfl rfl) hl.1 rfl (Nat.le_of_ble_eq_true rfl) dX4_keep_21 ⟨Nat.zero_le _, Nat.zero_le _⟩) hP hD hS hA [2, 3, 4, 5] [0, 1, 6, 7, 8] 9 rfl (fun u => w_X4_keep E a_t a_text a_told a_reader a_tower a_kept a_isKept a_lifts a_seenAt a_seenInches a_ways a_trial a_kept_k0 a_kept_k1 a_kept_k0_order a_tower_order a_kept_k1_order v_liftsMany v_seenMany u.1 u.2.1 v_tower_many v_tower_day v_tower_order u.2.2 v_isKept v_kept_k1_many v_kept_k1_day v_kept_k1_order) (fun _ => rfl) (by decide) (fun _ => rfl) (fun _ => rfl) rfl (fun _ => rfl) (fun u H locs hf hP hD hS => ?_)
      obtain ⟨u3, u4, u5⟩ := u
      have hP : va_P E.1 vwCl (w_X4_keep E a_t a_text a_told a_reader a_tower a_kept a_isKept a_lifts a_seenAt a_seenInches a_ways a_trial a_kept_k0 a_kept_k1 a_kept_k0_order a_tower_order a_kept_k1_order v_liftsMany v_seenMany u3 u4 v_tower_many v_tower_day v_tower_order u5 v_isKept v_kept_k1_many v_kept_k1_day v_kept_k1_order) H := hP
      have hD : va_D A (w_X4_keep E a_t a_text a_told a_reader a_tower a_kept a_isKept a_lifts a_seenAt a_seenInches a_ways a_trial a_kept_k0 a_kept_k1 a_kept_k0_order a_tower_order a_kept_k1_order v_liftsMany v_seenMany u3 u4 v_tower_many v_tower_day v_tower_order u5 v_isKept v_kept_k1_many v_kept_k1_day v_kept_k1_order) := hD
      refine lv_aload_n hx hb dX4_keep_24 rfl (lv_at hl 0 rfl) ?_
      refine gf_X4_43 hB hP 0 rfl rfl dX4_keep_25 ?_
      refine lv_iload_n hx hb dX4_keep_28 rfl (lv_at hl 1 rfl) ?_
      refine lv_iconst hx hb dX4_keep_29 kc_i_1 ?_
      obtain ⟨h_in, hf⟩ := hf
      refine va_zast hx hb hB.K hP hD hS 6 2 rfl rfl h_in dX4_keep_30 (fun H locs hP hD hS => ?_)
      have hP : va_P E.1 vwCl (w_X4_keep E a_t a_text a_told a_reader a_tower a_kept a_isKept a_lifts a_seenAt a_seenInches a_ways a_trial a_kept_k0 a_kept_k1 a_kept_k0_order a_tower_order a_kept_k1_order v_liftsMany v_seenMany u3 u4 v_tower_many v_tower_day v_tower_order u5 (upd v_isKept x1.toNatClampNeg (vp_nar .boolean 1)) v_kept_k1_many v_kept_k1_day v_kept_k1_order) H := hP
      have hD : va_D A (w_X4_keep E a_t a_text a_told a_reader a_tower a_kept a_isKept a_lifts a_seenAt a_seenInches a_ways a_trial a_kept_k0 a_kept_k1 a_kept_k0_order a_tower_order a_kept_k1_order v_liftsMany v_seenMany u3 u4 v_tower_many v_tower_day v_tower_order u5 (upd v_isKept x1.toNatClampNeg (vp_nar .boolean 1)) v_kept_k1_many v_kept_k1_day v_kept_k1_order) := hD
      refine lv_aload_n hx hb dX4_keep_31 rfl (lv_at hl 0 rfl) ?_
      refine gf_X4_35 hB hP 0 rfl rfl dX4_keep_32 ?_
      refine gf_X4_140 hB hP 3 rfl rfl dX4_keep_35 ?_
      exact hRet v_tower_many (u3, u4, u5, upd v_isKept x1.toNatClampNeg (vp_nar .boolean 1), v_kept_k1_many, v_kept_k1_day, v_kept_k1_order) 38 ls H locs dX4_keep_38 hf hP hS
    · have hf := hf.2 c16
      refine lv_aload_n hx hb dX4_keep_17 rfl (lv_at hl 0 rfl) ?_
      refine gf_X4_35 hB hP 0 rfl rfl dX4_keep_18 ?_
      refine mx_wv (mx_runN (As := [.ref a_tower]) (rest := []) hB (c_X3_copyFrom l E a_kept_k1 a_kept_k1_order a_tower a_tower_order v_kept_k1_many v_kept_k1_day v_tower_many v_tower_day v_tower_order v_kept_k1_order H.size  _ hf) sB_X3_copyFrom sV_X3_copyFrom wmn_X4_158 rfl (mx_pwV hB hP hD [7, 3, 4, 8] (by decide) rfl rfl 3 rfl rfl rfl) hl.1 rfl (Nat.le_of_ble_eq_true rfl) dX4_keep_21 ⟨Nat.zero_le _, Nat.zero_le _⟩) hP hD hS hA [7, 3, 4, 8] [0, 1, 2, 5, 6] 9 rfl (fun u => w_X4_keep E a_t a_text a_told a_reader a_tower a_kept a_isKept a_lifts a_seenAt a_seenInches a_ways a_trial a_kept_k0 a_kept_k1 a_kept_k0_order a_tower_order a_kept_k1_order v_liftsMany v_seenMany v_kept_k0_many v_kept_k0_day v_tower_many v_tower_day v_tower_order v_kept_k0_order v_isKept u.1 u.2.1 u.2.2) (fun _ => rfl) (by decide) (fun _ => rfl) (fun _ => rfl) rfl (fun _ => rfl) (fun u H locs hf hP hD hS => ?_)
      obtain ⟨u7, u8, u9⟩ := u
      have hP : va_P E.1 vwCl (w_X4_keep E a_t a_text a_told a_reader a_tower a_kept a_isKept a_lifts a_seenAt a_seenInches a_ways a_trial a_kept_k0 a_kept_k1 a_kept_k0_order a_tower_order a_kept_k1_order v_liftsMany v_seenMany v_kept_k0_many v_kept_k0_day v_tower_many v_tower_day v_tower_order v_kept_k0_order v_isKept u7 u8 u9) H := hP
      have hD : va_D A (w_X4_keep E a_t a_text a_told a_reader a_tower a_kept a_isKept a_lifts a_seenAt a_seenInches a_ways a_trial a_kept_k0 a_kept_k1 a_kept_k0_order a_tower_order a_kept_k1_order v_liftsMany v_seenMany v_kept_k0_many v_kept_k0_day v_tower_many v_tower_day v_tower_order v_kept_k0_order v_isKept u7 u8 u9) := hD
      refine lv_aload_n hx hb dX4_keep_24 rfl (lv_at hl 0 rfl) ?_
      refine gf_X4_43 hB hP 0 rfl rfl dX4_keep_25 ?_
      refine lv_iload_n hx hb dX4_keep_28 rfl (lv_at hl 1 rfl) ?_
      refine lv_iconst hx hb dX4_keep_29 kc_i_1 ?_
      obtain ⟨h_in, hf⟩ := hf
      refine va_zast hx hb hB.K hP hD hS 6 2 rfl rfl h_in dX4_keep_30 (fun H locs hP hD hS => ?_)
      have hP : va_P E.1 vwCl (w_X4_keep E a_t a_text a_told a_reader a_tower a_kept a_isKept a_lifts a_seenAt a_seenInches a_ways a_trial a_kept_k0 a_kept_k1 a_kept_k0_order a_tower_order a_kept_k1_order v_liftsMany v_seenMany v_kept_k0_many v_kept_k0_day v_tower_many v_tower_day v_tower_order v_kept_k0_order (upd v_isKept x1.toNatClampNeg (vp_nar .boolean 1)) u7 u8 u9) H := hP
      have hD : va_D A (w_X4_keep E a_t a_text a_told a_reader a_tower a_kept a_isKept a_lifts a_seenAt a_seenInches a_ways a_trial a_kept_k0 a_kept_k1 a_kept_k0_order a_tower_order a_kept_k1_order v_liftsMany v_seenMany v_kept_k0_many v_kept_k0_day v_tower_many v_tower_day v_tower_order v_kept_k0_order (upd v_isKept x1.toNatClampNeg (vp_nar .boolean 1)) u7 u8 u9) := hD
      refine lv_aload_n hx hb dX4_keep_31 rfl (lv_at hl 0 rfl) ?_
      refine gf_X4_35 hB hP 0 rfl rfl dX4_keep_32 ?_
      refine gf_X4_140 hB hP 3 rfl rfl dX4_keep_35 ?_
      exact hRet v_tower_many (v_kept_k0_many, v_kept_k0_day, v_kept_k0_order, upd v_isKept x1.toNatClampNeg (vp_nar .boolean 1), u7, u8, u9) 38 ls H locs dX4_keep_38 hf hP hS
  · have hf := hf.2 c5
    refine lv_bipush hx hb dX4_keep_8 kc_b_m2 ?_
    exact hRet (-2) (v_kept_k0_many, v_kept_k0_day, v_kept_k0_order, v_isKept, v_kept_k1_many, v_kept_k1_day, v_kept_k1_order) 10 ls H locs dX4_keep_10 hf hP hS
theorem c_X4_keep (l : Launch) (E : mx_E) (a_t : Nat) (a_text : Nat) (a_told : Nat) (a_reader : Nat) (a_tower : Nat) (a_kept : Nat) (a_isKept : Nat) (a_lifts : Nat) (a_seenAt : Nat) (a_seenInches : Nat) (a_ways : Nat) (a_trial : Nat) (a_kept_k0 : Nat) (a_kept_k1 : Nat) (a_kept_k0_order : Nat) (a_tower_order : Nat) (a_kept_k1_order : Nat) (v_liftsMany : Int32) (v_seenMany : Int32) (v_kept_k0_many : Int32) (v_kept_k0_day : Int32) (v_tower_many : Int32) (v_tower_day : Int32) (v_tower_order : (Nat → Int32)) (v_kept_k0_order : (Nat → Int32)) (v_isKept : (Nat → Int32)) (v_kept_k1_many : Int32) (v_kept_k1_day : Int32) (v_kept_k1_order : (Nat → Int32)) (sz : Nat) (x1 : Int32) (post : Int32 → Int32 → Int32 → (Nat → Int32) → (Nat → Int32) → Int32 → Int32 → (Nat → Int32) → Prop) (hf : f_X4_keep v_tower_many v_tower_day v_tower_order v_kept_k0_many v_kept_k0_day v_kept_k0_order v_isKept v_kept_k1_many v_kept_k1_day v_kept_k1_order x1 post) : Met l yX4_keep (Cond.code yX4_keep cX4_keep 2 (some .int) :: mx_WS) rm_X4_keep (va_Pc [.ref a_t, .int x1] (mx_Pw E (w_X4_keep E a_t a_text a_told a_reader a_tower a_kept a_isKept a_lifts a_seenAt a_seenInches a_ways a_trial a_kept_k0 a_kept_k1 a_kept_k0_order a_tower_order a_kept_k1_order v_liftsMany v_seenMany v_kept_k0_many v_kept_k0_day v_tower_many v_tower_day v_tower_order v_kept_k0_order v_isKept v_kept_k1_many v_kept_k1_day v_kept_k1_order) sz)) (va_Qi (fun (v : Int32) (u : Int32 × Int32 × (Nat → Int32) × (Nat → Int32) × Int32 × Int32 × (Nat → Int32)) => post v u.1 u.2.1 u.2.2.1 u.2.2.2.1 u.2.2.2.2.1 u.2.2.2.2.2.1 u.2.2.2.2.2.2) (fun u t => va_P E.1 vwCl (w_X4_keep E a_t a_text a_told a_reader a_tower a_kept a_isKept a_lifts a_seenAt a_seenInches a_ways a_trial a_kept_k0 a_kept_k1 a_kept_k0_order a_tower_order a_kept_k1_order v_liftsMany v_seenMany u.1 u.2.1 v_tower_many v_tower_day v_tower_order u.2.2.1 u.2.2.2.1 u.2.2.2.2.1 u.2.2.2.2.2.1 u.2.2.2.2.2.2) t.heap) (va_A (w_X4_keep E a_t a_text a_told a_reader a_tower a_kept a_isKept a_lifts a_seenAt a_seenInches a_ways a_trial a_kept_k0 a_kept_k1 a_kept_k0_order a_tower_order a_kept_k1_order v_liftsMany v_seenMany v_kept_k0_many v_kept_k0_day v_tower_many v_tower_day v_tower_order v_kept_k0_order v_isKept v_kept_k1_many v_kept_k1_day v_kept_k1_order) sz)) 0 0 (va_A (w_X4_keep E a_t a_text a_told a_reader a_tower a_kept a_isKept a_lifts a_seenAt a_seenInches a_ways a_trial a_kept_k0 a_kept_k1 a_kept_k0_order a_tower_order a_kept_k1_order v_liftsMany v_seenMany v_kept_k0_many v_kept_k0_day v_tower_many v_tower_day v_tower_order v_kept_k0_order v_isKept v_kept_k1_many v_kept_k1_day v_kept_k1_order) sz) :=
  mx_metWi (by decide) rfl rfl (fun hB hP hD hA hRet ls hl => b_X4_keep E a_t a_text a_told a_reader a_tower a_kept a_isKept a_lifts a_seenAt a_seenInches a_ways a_trial a_kept_k0 a_kept_k1 a_kept_k0_order a_tower_order a_kept_k1_order v_liftsMany v_seenMany v_kept_k0_many v_kept_k0_day v_tower_many v_tower_day v_tower_order v_kept_k0_order v_isKept v_kept_k1_many v_kept_k1_day v_kept_k1_order x1 post hB hP hD hA hRet hf ls hl)
def rm_X4_back : Room := { frames := 2, cells := 0, slots := 0, locals := 61 }
set_option maxHeartbeats 4000000 in
set_option maxRecDepth 100000 in
theorem b_X4_back {p : Program} {l : Launch} {e : Env} {s : State} {m : MethodId} {args : Array Value} {below : List Frame} {meth : Method} {c : Code} {Q : State → Prop} {A : Nat → Prop} (E : mx_E) (a_t : Nat) (a_text : Nat) (a_told : Nat) (a_reader : Nat) (a_tower : Nat) (a_kept : Nat) (a_isKept : Nat) (a_lifts : Nat) (a_seenAt : Nat) (a_seenInches : Nat) (a_ways : Nat) (a_trial : Nat) (a_kept_k0 : Nat) (a_kept_k1 : Nat) (a_tower_order : Nat) (a_kept_k0_order : Nat) (a_kept_k1_order : Nat) (v_liftsMany : Int32) (v_seenMany : Int32) (v_isKept : (Nat → Int32)) (v_tower_many : Int32) (v_tower_day : Int32) (v_kept_k0_many : Int32) (v_kept_k0_day : Int32) (v_kept_k0_order : (Nat → Int32)) (v_tower_order : (Nat → Int32)) (v_kept_k1_many : Int32) (v_kept_k1_day : Int32) (v_kept_k1_order : (Nat → Int32)) (x1 : Int32) (post : Int32 → Int32 → Int32 → (Nat → Int32) → Int32 → Prop) (hB : mx_B p m c cX4_back 2 s args RX4 E) (hP : va_P E.1 vwCl (w_X4_back E a_t a_text a_told a_reader a_tower a_kept a_isKept a_lifts a_seenAt a_seenInches a_ways a_trial a_kept_k0 a_kept_k1 a_tower_order a_kept_k0_order a_kept_k1_order v_liftsMany v_seenMany v_isKept v_tower_many v_tower_day v_kept_k0_many v_kept_k0_day v_kept_k0_order v_tower_order v_kept_k1_many v_kept_k1_day v_kept_k1_order) s.heap) (hD : va_D A (w_X4_back E a_t a_text a_told a_reader a_tower a_kept a_isKept a_lifts a_seenAt a_seenInches a_ways a_trial a_kept_k0 a_kept_k1 a_tower_order a_kept_k0_order a_kept_k1_order v_liftsMany v_seenMany v_isKept v_tower_many v_tower_day v_kept_k0_many v_kept_k0_day v_kept_k0_order v_tower_order v_kept_k1_many v_kept_k1_day v_kept_k1_order)) (hA : ∀ q : Nat, s.heap.size ≤ q → A q) (hRet : ∀ (v : Int32) (u : Int32 × Int32 × (Nat → Int32) × Int32) (pc : Nat) (ls : Array Slot) (H : Heap) (locs : List Loc), decode cX4_back pc = .ok (.ireturn, 1) → post v u.1 u.2.1 u.2.2.1 u.2.2.2 → va_P E.1 vwCl (w_X4_back E a_t a_text a_told a_reader a_tower a_kept a_isKept a_lifts a_seenAt a_seenInches a_ways a_trial a_kept_k0 a_kept_k1 a_tower_order a_kept_k0_order a_kept_k1_order v_liftsMany u.2.2.2 v_isKept u.1 u.2.1 v_kept_k0_many v_kept_k0_day v_kept_k0_order u.2.2.1 v_kept_k1_many v_kept_k1_day v_kept_k1_order) H → va_S A s.heap H locs → W p l e rm_X4_back s m args below meth c H locs 0 0 Q (F0 m pc ls [.int v])) (hf : f_X4_back v_isKept v_kept_k0_many v_kept_k0_day v_kept_k0_order v_kept_k1_many v_kept_k1_day v_kept_k1_order v_tower_many v_tower_day v_tower_order v_seenMany x1 post) (ls : Array Slot) (hl : lv_has ls 2 [(0, .ref a_t), (1, .int x1)]) : W p l e rm_X4_back s m args below meth c s.heap [] 0 0 Q (F0 m 0 ls []) := by
  have hx := hB.x
  have hb := hB.b
  have hS : va_S A s.heap s.heap [] := va_S.rf
  obtain ⟨H, locs, eH, eL⟩ : ∃ (H : Heap) (locs : List Loc), H = s.heap ∧ locs = [] := ⟨_, _, rfl, rfl⟩
  rw [← eH] at hP
  have hS : va_S A s.heap H locs := by rw [eH, eL]; exact hS
  show W p l e rm_X4_back s m args below meth c s.heap [] 0 0 Q (F0 m 0 ls [])
  rw [← eH, ← eL]
  refine lv_aload_n hx hb dX4_back_0 rfl (lv_at hl 0 rfl) ?_
  refine lv_iload_n hx hb dX4_back_1 rfl (lv_at hl 1 rfl) ?_
  refine mx_gi (mx_runV (As := [.int x1]) (rest := []) hB (c_X4_hasKeepAt l E a_t a_text a_told a_reader a_tower a_kept a_isKept a_lifts a_seenAt a_seenInches a_ways a_trial a_kept_k0 a_kept_k1 v_liftsMany v_seenMany x1 _ hf) sB_X4_hasKeepAt sV_X4_hasKeepAt wml_X4_155 rfl (mx_ppV hB hP [0, 1] rfl 4 rfl rfl rfl) hl.1 rfl (Nat.le_of_ble_eq_true rfl) dX4_back_2 ⟨Nat.zero_le _, Nat.zero_le _⟩) (fun r1 hf => ?_)
  refine lv_if_ne (tgt := 11) hx hb dX4_back_5 (by decide) (fun c5 => ?_) (fun c5 => ?_)
  · have hf := hf.1 c5
    refine lv_aload_n hx hb dX4_back_11 rfl (lv_at hl 0 rfl) ?_
    refine gf_X4_43 hB hP 0 rfl rfl dX4_back_12 ?_
    refine lv_iload_n hx hb dX4_back_15 rfl (lv_at hl 1 rfl) ?_
    obtain ⟨h_in, hf⟩ := hf
    refine va_zald hx hb hB.K hP 2 2 rfl rfl h_in dX4_back_16 ?_
    refine lv_if_ne (tgt := 23) hx hb dX4_back_17 (by decide) (fun c17 => ?_) (fun c17 => ?_)
    · have hf := hf.1 c17
      refine lv_aload_n hx hb dX4_back_23 rfl (lv_at hl 0 rfl) ?_
      refine gf_X4_35 hB hP 0 rfl rfl dX4_back_24 ?_
      refine lv_aload_n hx hb dX4_back_27 rfl (lv_at hl 0 rfl) ?_
      refine gf_X4_39 hB hP 0 rfl rfl dX4_back_28 ?_
      refine lv_iload_n hx hb dX4_back_31 rfl (lv_at hl 1 rfl) ?_
      obtain ⟨h_in, hf⟩ := hf
      refine mx_ald2 hx hb hB.K hP 1 3 rfl rfl h_in dX4_back_32 (fun c32 => ?_) (fun c32 => ?_)
      · have hf := hf.1 c32
        refine mx_wv (mx_runN (As := [.ref a_kept_k0]) (rest := []) hB (c_X3_copyFrom l E a_tower a_tower_order a_kept_k0 a_kept_k0_order v_tower_many v_tower_day v_kept_k0_many v_kept_k0_day v_kept_k0_order v_tower_order H.size  _ hf) sB_X3_copyFrom sV_X3_copyFrom wmn_X4_158 rfl (mx_pwV hB hP hD [3, 4, 5, 6] (by decide) rfl rfl 3 rfl rfl rfl) hl.1 rfl (Nat.le_of_ble_eq_true rfl) dX4_back_33 ⟨Nat.zero_le _, Nat.zero_le _⟩) hP hD hS hA [3, 4, 5, 6] [0, 1, 2, 7, 8] 9 rfl (fun u => w_X4_back E a_t a_text a_told a_reader a_tower a_kept a_isKept a_lifts a_seenAt a_seenInches a_ways a_trial a_kept_k0 a_kept_k1 a_tower_order a_kept_k0_order a_kept_k1_order v_liftsMany v_seenMany v_isKept u.1 u.2.1 v_kept_k0_many v_kept_k0_day v_kept_k0_order u.2.2 v_kept_k1_many v_kept_k1_day v_kept_k1_order) (fun _ => rfl) (by decide) (fun _ => rfl) (fun _ => rfl) rfl (fun _ => rfl) (fun u H locs hf hP hD hS => ?_)
        obtain ⟨u3, u4, u5⟩ := u
        have hP : va_P E.1 vwCl (w_X4_back E a_t a_text a_told a_reader a_tower a_kept a_isKept a_lifts a_seenAt a_seenInches a_ways a_trial a_kept_k0 a_kept_k1 a_tower_order a_kept_k0_order a_kept_k1_order v_liftsMany v_seenMany v_isKept u3 u4 v_kept_k0_many v_kept_k0_day v_kept_k0_order u5 v_kept_k1_many v_kept_k1_day v_kept_k1_order) H := hP
        have hD : va_D A (w_X4_back E a_t a_text a_told a_reader a_tower a_kept a_isKept a_lifts a_seenAt a_seenInches a_ways a_trial a_kept_k0 a_kept_k1 a_tower_order a_kept_k0_order a_kept_k1_order v_liftsMany v_seenMany v_isKept u3 u4 v_kept_k0_many v_kept_k0_day v_kept_k0_order u5 v_kept_k1_many v_kept_k1_day v_kept_k1_order) := hD
        refine lv_aload_n hx hb dX4_back_36 rfl (lv_at hl 0 rfl) ?_
        refine lv_iconst hx hb dX4_back_37 kc_i_0 ?_
        refine pf_X4_90 hB hP hD hS 0 rfl (Nat.le_of_ble_eq_true rfl) dX4_back_38 (w_X4_back E a_t a_text a_told a_reader a_tower a_kept a_isKept a_lifts a_seenAt a_seenInches a_ways a_trial a_kept_k0 a_kept_k1 a_tower_order a_kept_k0_order a_kept_k1_order v_liftsMany 0 v_isKept u3 u4 v_kept_k0_many v_kept_k0_day v_kept_k0_order u5 v_kept_k1_many v_kept_k1_day v_kept_k1_order) rfl (fun H locs hP hD hS => ?_)
        refine lv_aload_n hx hb dX4_back_41 rfl (lv_at hl 0 rfl) ?_
        refine gf_X4_35 hB hP 0 rfl rfl dX4_back_42 ?_
        refine gf_X4_140 hB hP 3 rfl rfl dX4_back_45 ?_
        exact hRet u3 (u3, u4, u5, 0) 48 ls H locs dX4_back_48 hf hP hS
      · have hf := hf.2 c32
        refine mx_wv (mx_runN (As := [.ref a_kept_k1]) (rest := []) hB (c_X3_copyFrom l E a_tower a_tower_order a_kept_k1 a_kept_k1_order v_tower_many v_tower_day v_kept_k1_many v_kept_k1_day v_kept_k1_order v_tower_order H.size  _ hf) sB_X3_copyFrom sV_X3_copyFrom wmn_X4_158 rfl (mx_pwV hB hP hD [3, 7, 8, 6] (by decide) rfl rfl 3 rfl rfl rfl) hl.1 rfl (Nat.le_of_ble_eq_true rfl) dX4_back_33 ⟨Nat.zero_le _, Nat.zero_le _⟩) hP hD hS hA [3, 7, 8, 6] [0, 1, 2, 4, 5] 9 rfl (fun u => w_X4_back E a_t a_text a_told a_reader a_tower a_kept a_isKept a_lifts a_seenAt a_seenInches a_ways a_trial a_kept_k0 a_kept_k1 a_tower_order a_kept_k0_order a_kept_k1_order v_liftsMany v_seenMany v_isKept u.1 u.2.1 v_kept_k0_many v_kept_k0_day v_kept_k0_order u.2.2 v_kept_k1_many v_kept_k1_day v_kept_k1_order) (fun _ => rfl) (by decide) (fun _ => rfl) (fun _ => rfl) rfl (fun _ => rfl) (fun u H locs hf hP hD hS => ?_)
        obtain ⟨u7, u8, u9⟩ := u
        have hP : va_P E.1 vwCl (w_X4_back E a_t a_text a_told a_reader a_tower a_kept a_isKept a_lifts a_seenAt a_seenInches a_ways a_trial a_kept_k0 a_kept_k1 a_tower_order a_kept_k0_order a_kept_k1_order v_liftsMany v_seenMany v_isKept u7 u8 v_kept_k0_many v_kept_k0_day v_kept_k0_order u9 v_kept_k1_many v_kept_k1_day v_kept_k1_order) H := hP
        have hD : va_D A (w_X4_back E a_t a_text a_told a_reader a_tower a_kept a_isKept a_lifts a_seenAt a_seenInches a_ways a_trial a_kept_k0 a_kept_k1 a_tower_order a_kept_k0_order a_kept_k1_order v_liftsMany v_seenMany v_isKept u7 u8 v_kept_k0_many v_kept_k0_day v_kept_k0_order u9 v_kept_k1_many v_kept_k1_day v_kept_k1_order) := hD
        refine lv_aload_n hx hb dX4_back_36 rfl (lv_at hl 0 rfl) ?_
        refine lv_iconst hx hb dX4_back_37 kc_i_0 ?_
        refine pf_X4_90 hB hP hD hS 0 rfl (Nat.le_of_ble_eq_true rfl) dX4_back_38 (w_X4_back E a_t a_text a_told a_reader a_tower a_kept a_isKept a_lifts a_seenAt a_seenInches a_ways a_trial a_kept_k0 a_kept_k1 a_tower_order a_kept_k0_order a_kept_k1_order v_liftsMany 0 v_isKept u7 u8 v_kept_k0_many v_kept_k0_day v_kept_k0_order u9 v_kept_k1_many v_kept_k1_day v_kept_k1_order) rfl (fun H locs hP hD hS => ?_)
        refine lv_aload_n hx hb dX4_back_41 rfl (lv_at hl 0 rfl) ?_
        refine gf_X4_35 hB hP 0 rfl rfl dX4_back_42 ?_
        refine gf_X4_140 hB hP 3 rfl rfl dX4_back_45 ?_
        exact hRet u7 (u7, u8, u9, 0) 48 ls H locs dX4_back_48 hf hP hS
    · have hf := hf.2 c17
      refine lv_bipush hx hb dX4_back_20 kc_b_m4 ?_
      exact hRet (-4) (v_tower_many, v_tower_day, v_tower_order, v_seenMany) 22 ls H locs dX4_back_22 hf hP hS
  · have hf := hf.2 c5
    refine lv_bipush hx hb dX4_back_8 kc_b_m2 ?_
    exact hRet (-2) (v_tower_many, v_tower_day, v_tower_order, v_seenMany) 10 ls H locs dX4_back_10 hf hP hS
theorem c_X4_back (l : Launch) (E : mx_E) (a_t : Nat) (a_text : Nat) (a_told : Nat) (a_reader : Nat) (a_tower : Nat) (a_kept : Nat) (a_isKept : Nat) (a_lifts : Nat) (a_seenAt : Nat) (a_seenInches : Nat) (a_ways : Nat) (a_trial : Nat) (a_kept_k0 : Nat) (a_kept_k1 : Nat) (a_tower_order : Nat) (a_kept_k0_order : Nat) (a_kept_k1_order : Nat) (v_liftsMany : Int32) (v_seenMany : Int32) (v_isKept : (Nat → Int32)) (v_tower_many : Int32) (v_tower_day : Int32) (v_kept_k0_many : Int32) (v_kept_k0_day : Int32) (v_kept_k0_order : (Nat → Int32)) (v_tower_order : (Nat → Int32)) (v_kept_k1_many : Int32) (v_kept_k1_day : Int32) (v_kept_k1_order : (Nat → Int32)) (sz : Nat) (x1 : Int32) (post : Int32 → Int32 → Int32 → (Nat → Int32) → Int32 → Prop) (hf : f_X4_back v_isKept v_kept_k0_many v_kept_k0_day v_kept_k0_order v_kept_k1_many v_kept_k1_day v_kept_k1_order v_tower_many v_tower_day v_tower_order v_seenMany x1 post) : Met l yX4_back (Cond.code yX4_back cX4_back 2 (some .int) :: mx_WS) rm_X4_back (va_Pc [.ref a_t, .int x1] (mx_Pw E (w_X4_back E a_t a_text a_told a_reader a_tower a_kept a_isKept a_lifts a_seenAt a_seenInches a_ways a_trial a_kept_k0 a_kept_k1 a_tower_order a_kept_k0_order a_kept_k1_order v_liftsMany v_seenMany v_isKept v_tower_many v_tower_day v_kept_k0_many v_kept_k0_day v_kept_k0_order v_tower_order v_kept_k1_many v_kept_k1_day v_kept_k1_order) sz)) (va_Qi (fun (v : Int32) (u : Int32 × Int32 × (Nat → Int32) × Int32) => post v u.1 u.2.1 u.2.2.1 u.2.2.2) (fun u t => va_P E.1 vwCl (w_X4_back E a_t a_text a_told a_reader a_tower a_kept a_isKept a_lifts a_seenAt a_seenInches a_ways a_trial a_kept_k0 a_kept_k1 a_tower_order a_kept_k0_order a_kept_k1_order v_liftsMany u.2.2.2 v_isKept u.1 u.2.1 v_kept_k0_many v_kept_k0_day v_kept_k0_order u.2.2.1 v_kept_k1_many v_kept_k1_day v_kept_k1_order) t.heap) (va_A (w_X4_back E a_t a_text a_told a_reader a_tower a_kept a_isKept a_lifts a_seenAt a_seenInches a_ways a_trial a_kept_k0 a_kept_k1 a_tower_order a_kept_k0_order a_kept_k1_order v_liftsMany v_seenMany v_isKept v_tower_many v_tower_day v_kept_k0_many v_kept_k0_day v_kept_k0_order v_tower_order v_kept_k1_many v_kept_k1_day v_kept_k1_order) sz)) 0 0 (va_A (w_X4_back E a_t a_text a_told a_reader a_tower a_kept a_isKept a_lifts a_seenAt a_seenInches a_ways a_trial a_kept_k0 a_kept_k1 a_tower_order a_kept_k0_order a_kept_k1_order v_liftsMany v_seenMany v_isKept v_tower_many v_tower_day v_kept_k0_many v_kept_k0_day v_kept_k0_order v_tower_order v_kept_k1_many v_kept_k1_day v_kept_k1_order) sz) :=
  mx_metWi (by decide) rfl rfl (fun hB hP hD hA hRet ls hl => b_X4_back E a_t a_text a_told a_reader a_tower a_kept a_isKept a_lifts a_seenAt a_seenInches a_ways a_trial a_kept_k0 a_kept_k1 a_tower_order a_kept_k0_order a_kept_k1_order v_liftsMany v_seenMany v_isKept v_tower_many v_tower_day v_kept_k0_many v_kept_k0_day v_kept_k0_order v_tower_order v_kept_k1_many v_kept_k1_day v_kept_k1_order x1 post hB hP hD hA hRet hf ls hl)
def rm_X4_countWaysOn : Room := { frames := 3, cells := 0, slots := 0, locals := 66 }
set_option maxHeartbeats 4000000 in
set_option maxRecDepth 100000 in
theorem b_X4_countWaysOn {p : Program} {l : Launch} {e : Env} {s : State} {m : MethodId} {args : Array Value} {below : List Frame} {meth : Method} {c : Code} {Q : State → Prop} {A : Nat → Prop} (E : mx_E) (a_t : Nat) (a_text : Nat) (a_told : Nat) (a_reader : Nat) (a_tower : Nat) (a_kept : Nat) (a_isKept : Nat) (a_lifts : Nat) (a_seenAt : Nat) (a_seenInches : Nat) (a_ways : Nat) (a_trial : Nat) (a_told_kind : Nat) (a_told_weight : Nat) (a_told_strength : Nat) (a_told_height : Nat) (a_told_folk : Nat) (a_told_mustBeAbove : Nat) (a_told_wind : Nat) (v_liftsMany : Int32) (v_seenMany : Int32) (v_told_storeys : Int32) (v_told_pairs : Int32) (v_told_bears : Int32) (v_told_soft : Int32) (v_told_cellars : Int32) (v_ways : (Nat → Int32)) (v_told_weight : (Nat → Int32)) (v_told_folk : (Nat → Int32)) (v_told_kind : (Nat → Int32)) (v_told_mustBeAbove : (Nat → Int32)) (v_told_strength : (Nat → Int32))  (post : (Nat → Int32) → Prop) (hB : mx_B p m c cX4_countWaysOn 6 s args RX4 E) (hP : va_P E.1 vwCl (w_X4_countWaysOn E a_t a_text a_told a_reader a_tower a_kept a_isKept a_lifts a_seenAt a_seenInches a_ways a_trial a_told_kind a_told_weight a_told_strength a_told_height a_told_folk a_told_mustBeAbove a_told_wind v_liftsMany v_seenMany v_told_storeys v_told_pairs v_told_bears v_told_soft v_told_cellars v_ways v_told_weight v_told_folk v_told_kind v_told_mustBeAbove v_told_strength) s.heap) (hD : va_D A (w_X4_countWaysOn E a_t a_text a_told a_reader a_tower a_kept a_isKept a_lifts a_seenAt a_seenInches a_ways a_trial a_told_kind a_told_weight a_told_strength a_told_height a_told_folk a_told_mustBeAbove a_told_wind v_liftsMany v_seenMany v_told_storeys v_told_pairs v_told_bears v_told_soft v_told_cellars v_ways v_told_weight v_told_folk v_told_kind v_told_mustBeAbove v_told_strength)) (hA : ∀ q : Nat, s.heap.size ≤ q → A q) (hRet : ∀ (u : (Nat → Int32)) (pc : Nat) (ls : Array Slot) (H : Heap) (locs : List Loc), decode cX4_countWaysOn pc = .ok (.return_, 1) → post u → va_P E.1 vwCl (w_X4_countWaysOn E a_t a_text a_told a_reader a_tower a_kept a_isKept a_lifts a_seenAt a_seenInches a_ways a_trial a_told_kind a_told_weight a_told_strength a_told_height a_told_folk a_told_mustBeAbove a_told_wind v_liftsMany v_seenMany v_told_storeys v_told_pairs v_told_bears v_told_soft v_told_cellars u v_told_weight v_told_folk v_told_kind v_told_mustBeAbove v_told_strength) H → va_S A s.heap H locs → W p l e rm_X4_countWaysOn s m args below meth c H locs 0 0 Q (F0 m pc ls [])) (hf : f_X4_countWaysOn v_told_storeys v_told_weight v_told_folk v_told_bears v_told_kind v_told_cellars v_told_mustBeAbove v_told_strength v_ways post) (ls : Array Slot) (hl : lv_has ls 6 [(0, .ref a_t)]) : W p l e rm_X4_countWaysOn s m args below meth c s.heap [] 0 0 Q (F0 m 0 ls []) := by
  have hx := hB.x
  have hb := hB.b
  have hS : va_S A s.heap s.heap [] := va_S.rf
  have L_19 : ∀  (n : Nat) (j19_x2 : Int32) (j19_v_ways : (Nat → Int32)) (ls : Array Slot) (H : Heap) (locs : List Loc), mx_l2 (f_X4_countWaysOn_19 v_told_storeys v_told_weight v_told_folk v_told_bears v_told_kind v_told_cellars v_told_mustBeAbove v_told_strength post) n j19_x2 j19_v_ways → lv_has ls 6 [(0, .ref a_t), (2, .int j19_x2)] → va_P E.1 vwCl (w_X4_countWaysOn E a_t a_text a_told a_reader a_tower a_kept a_isKept a_lifts a_seenAt a_seenInches a_ways a_trial a_told_kind a_told_weight a_told_strength a_told_height a_told_folk a_told_mustBeAbove a_told_wind v_liftsMany v_seenMany v_told_storeys v_told_pairs v_told_bears v_told_soft v_told_cellars j19_v_ways v_told_weight v_told_folk v_told_kind v_told_mustBeAbove v_told_strength) H → va_D A (w_X4_countWaysOn E a_t a_text a_told a_reader a_tower a_kept a_isKept a_lifts a_seenAt a_seenInches a_ways a_trial a_told_kind a_told_weight a_told_strength a_told_height a_told_folk a_told_mustBeAbove a_told_wind v_liftsMany v_seenMany v_told_storeys v_told_pairs v_told_bears v_told_soft v_told_cellars j19_v_ways v_told_weight v_told_folk v_told_kind v_told_mustBeAbove v_told_strength) → va_S A s.heap H locs → W p l e rm_X4_countWaysOn s m args below meth c H locs 0 0 Q (F0 m 19 ls []) := by
    intro  n_19
    induction n_19 with
    | zero =>
      intro j19_x2 j19_v_ways ls H locs hf hl hP hD hS
      exact False.elim hf
    | succ n_19 ih_19 =>
      have J_93 : ∀ (j93_x2 : Int32) (j93_x4 : Int32) (j93_v_ways : (Nat → Int32)) (ls : Array Slot) (H : Heap) (locs : List Loc), f_X4_countWaysOn_93 v_told_storeys v_told_weight v_told_folk v_told_bears v_told_kind v_told_cellars v_told_mustBeAbove v_told_strength (mx_l2 (f_X4_countWaysOn_19 v_told_storeys v_told_weight v_told_folk v_told_bears v_told_kind v_told_cellars v_told_mustBeAbove v_told_strength post) n_19) post j93_x2 j93_x4 j93_v_ways → lv_has ls 6 [(0, .ref a_t), (2, .int j93_x2), (4, .int j93_x4)] → va_P E.1 vwCl (w_X4_countWaysOn E a_t a_text a_told a_reader a_tower a_kept a_isKept a_lifts a_seenAt a_seenInches a_ways a_trial a_told_kind a_told_weight a_told_strength a_told_height a_told_folk a_told_mustBeAbove a_told_wind v_liftsMany v_seenMany v_told_storeys v_told_pairs v_told_bears v_told_soft v_told_cellars j93_v_ways v_told_weight v_told_folk v_told_kind v_told_mustBeAbove v_told_strength) H → va_D A (w_X4_countWaysOn E a_t a_text a_told a_reader a_tower a_kept a_isKept a_lifts a_seenAt a_seenInches a_ways a_trial a_told_kind a_told_weight a_told_strength a_told_height a_told_folk a_told_mustBeAbove a_told_wind v_liftsMany v_seenMany v_told_storeys v_told_pairs v_told_bears v_told_soft v_told_cellars j93_v_ways v_told_weight v_told_folk v_told_kind v_told_mustBeAbove v_told_strength) → va_S A s.heap H locs → W p l e rm_X4_countWaysOn s m args below meth c H locs 0 0 Q (F0 m 93 ls []) := by
        intro j93_x2 j93_x4 j93_v_ways ls H locs hf hl hP hD hS
        refine lv_aload_n hx hb dX4_countWaysOn_93 rfl (lv_at hl 0 rfl) ?_
        refine gf_X4_57 hB hP 0 rfl rfl dX4_countWaysOn_94 ?_
        refine lv_iload_n hx hb dX4_countWaysOn_97 rfl (lv_at hl 1 rfl) ?_
        refine lv_iload hx hb dX4_countWaysOn_98 (lv_at hl 2 rfl) ?_
        obtain ⟨h_in, hf⟩ := hf
        refine va_iast hx hb hB.K hP hD hS 2 0 rfl rfl h_in dX4_countWaysOn_100 (fun H locs hP hD hS => ?_)
        have hP : va_P E.1 vwCl (w_X4_countWaysOn E a_t a_text a_told a_reader a_tower a_kept a_isKept a_lifts a_seenAt a_seenInches a_ways a_trial a_told_kind a_told_weight a_told_strength a_told_height a_told_folk a_told_mustBeAbove a_told_wind v_liftsMany v_seenMany v_told_storeys v_told_pairs v_told_bears v_told_soft v_told_cellars (upd j93_v_ways j93_x2.toNatClampNeg j93_x4) v_told_weight v_told_folk v_told_kind v_told_mustBeAbove v_told_strength) H := hP
        have hD : va_D A (w_X4_countWaysOn E a_t a_text a_told a_reader a_tower a_kept a_isKept a_lifts a_seenAt a_seenInches a_ways a_trial a_told_kind a_told_weight a_told_strength a_told_height a_told_folk a_told_mustBeAbove a_told_wind v_liftsMany v_seenMany v_told_storeys v_told_pairs v_told_bears v_told_soft v_told_cellars (upd j93_v_ways j93_x2.toNatClampNeg j93_x4) v_told_weight v_told_folk v_told_kind v_told_mustBeAbove v_told_strength) := hD
        refine lv_iinc (v := j93_x2 + (-1)) (lv' := [(2, .int (j93_x2 + (-1))), (0, .ref a_t), (4, .int j93_x4)]) hx hb dX4_countWaysOn_101 hl (k := 1) rfl (by rw [kc_i_m1]) (by decide) rfl (fun ls hl => ?_)
        refine lv_goto (tgt := 19) hx hb dX4_countWaysOn_104 (by decide) ?_
        exact ih_19 (j93_x2 + (-1)) (upd j93_v_ways j93_x2.toNatClampNeg j93_x4) ls H locs hf (lv_sub hl [1, 0] rfl) hP hD hS
      have L_38 : ∀ (g38_x2 : Int32) (g38_x3 : Int32) (g38_v_ways : (Nat → Int32)) (n : Nat) (j38_x4 : Int32) (j38_x5 : Int32) (ls : Array Slot) (H : Heap) (locs : List Loc), mx_l2 (f_X4_countWaysOn_38 v_told_storeys v_told_weight v_told_folk v_told_bears v_told_kind v_told_cellars v_told_mustBeAbove v_told_strength (mx_l2 (f_X4_countWaysOn_19 v_told_storeys v_told_weight v_told_folk v_told_bears v_told_kind v_told_cellars v_told_mustBeAbove v_told_strength post) n_19) post g38_x2 g38_x3 g38_v_ways) n j38_x4 j38_x5 → lv_has ls 6 [(0, .ref a_t), (2, .int g38_x2), (3, .int g38_x3), (4, .int j38_x4), (5, .int j38_x5)] → va_P E.1 vwCl (w_X4_countWaysOn E a_t a_text a_told a_reader a_tower a_kept a_isKept a_lifts a_seenAt a_seenInches a_ways a_trial a_told_kind a_told_weight a_told_strength a_told_height a_told_folk a_told_mustBeAbove a_told_wind v_liftsMany v_seenMany v_told_storeys v_told_pairs v_told_bears v_told_soft v_told_cellars g38_v_ways v_told_weight v_told_folk v_told_kind v_told_mustBeAbove v_told_strength) H → va_D A (w_X4_countWaysOn E a_t a_text a_told a_reader a_tower a_kept a_isKept a_lifts a_seenAt a_seenInches a_ways a_trial a_told_kind a_told_weight a_told_strength a_told_height a_told_folk a_told_mustBeAbove a_told_wind v_liftsMany v_seenMany v_told_storeys v_told_pairs v_told_bears v_told_soft v_told_cellars g38_v_ways v_told_weight v_told_folk v_told_kind v_told_mustBeAbove v_told_strength) → va_S A s.heap H locs → W p l e rm_X4_countWaysOn s m args below meth c H locs 0 0 Q (F0 m 38 ls []) := by
        intro g38_x2 g38_x3 g38_v_ways n_38
        induction n_38 with
        | zero =>
          intro j38_x4 j38_x5 ls H locs hf hl hP hD hS
          exact False.elim hf
        | succ n_38 ih_38 =>
          intro j38_x4 j38_x5 ls H locs hf hl hP hD hS
          replace hf : f_X4_countWaysOn_38 v_told_storeys v_told_weight v_told_folk v_told_bears v_told_kind v_told_cellars v_told_mustBeAbove v_told_strength (mx_l2 (f_X4_countWaysOn_19 v_told_storeys v_told_weight v_told_folk v_told_bears v_told_kind v_told_cellars v_told_mustBeAbove v_told_strength post) n_19) post g38_x2 g38_x3 g38_v_ways (mx_l2 (f_X4_countWaysOn_38 v_told_storeys v_told_weight v_told_folk v_told_bears v_told_kind v_told_cellars v_told_mustBeAbove v_told_strength (mx_l2 (f_X4_countWaysOn_19 v_told_storeys v_told_weight v_told_folk v_told_bears v_told_kind v_told_cellars v_told_mustBeAbove v_told_strength post) n_19) post g38_x2 g38_x3 g38_v_ways) n_38) j38_x4 j38_x5 := hf
          refine lv_iload hx hb dX4_countWaysOn_38 (lv_at hl 4 rfl) ?_
          refine lv_aload_n hx hb dX4_countWaysOn_40 rfl (lv_at hl 0 rfl) ?_
          refine gf_X4_19 hB hP 0 rfl rfl dX4_countWaysOn_41 ?_
          refine gf_X4_164 hB hP 1 rfl rfl dX4_countWaysOn_44 ?_
          refine lv_icmp_ge (tgt := 93) hx hb dX4_countWaysOn_47 (by decide) (fun c47 => ?_) (fun c47 => ?_)
          · have hf := hf.1 c47
            exact J_93 g38_x2 j38_x4 g38_v_ways ls H locs hf (lv_sub hl [0, 1, 3] rfl) hP hD hS
          · have hf := hf.2 c47
            refine lv_aload_n hx hb dX4_countWaysOn_50 rfl (lv_at hl 0 rfl) ?_
            refine gf_X4_19 hB hP 0 rfl rfl dX4_countWaysOn_51 ?_
            refine lv_iload hx hb dX4_countWaysOn_54 (lv_at hl 4 rfl) ?_
            refine lv_iload_n hx hb dX4_countWaysOn_56 rfl (lv_at hl 1 rfl) ?_
            refine lv_iload_n hx hb dX4_countWaysOn_57 rfl (lv_at hl 2 rfl) ?_
            refine lv_aload_n hx hb dX4_countWaysOn_58 rfl (lv_at hl 0 rfl) ?_
            refine gf_X4_19 hB hP 0 rfl rfl dX4_countWaysOn_59 ?_
            refine gf_X4_173 hB hP 1 rfl rfl dX4_countWaysOn_62 ?_
            refine mx_gi (mx_runN (As := [.int j38_x5, .int g38_x2, .int g38_x3, .int v_told_bears]) (rest := []) hB (c_X1_whyNot l E a_told a_told_kind a_told_weight a_told_strength a_told_height a_told_folk a_told_mustBeAbove a_told_wind v_told_storeys v_told_pairs v_told_bears v_told_soft v_told_cellars v_told_kind v_told_mustBeAbove v_told_strength j38_x5 g38_x2 g38_x3 v_told_bears _ hf) sB_X1_whyNot sV_X1_whyNot wmn_X4_176 rfl (mx_ppV hB hP [1, 5, 6, 7] rfl 1 rfl rfl rfl) hl.1 rfl (Nat.le_of_ble_eq_true rfl) dX4_countWaysOn_65 ⟨Nat.zero_le _, Nat.zero_le _⟩) (fun r1 hf => ?_)
            refine lv_if_ne (tgt := 87) hx hb dX4_countWaysOn_68 (by decide) (fun c68 => ?_) (fun c68 => ?_)
            · have hf := hf.1 c68
              refine lv_iinc (v := j38_x5 + 1) (lv' := [(5, .int (j38_x5 + 1)), (0, .ref a_t), (2, .int g38_x2), (3, .int g38_x3), (4, .int j38_x4)]) hx hb dX4_countWaysOn_87 hl (k := 4) rfl (by rw [kc_i_1]) (by decide) rfl (fun ls hl => ?_)
              refine lv_goto (tgt := 38) hx hb dX4_countWaysOn_90 (by decide) ?_
              exact ih_38 j38_x4 (j38_x5 + 1) ls H locs hf (lv_sub hl [1, 2, 3, 4, 0] rfl) hP hD hS
            · have hf := hf.2 c68
              refine lv_iload hx hb dX4_countWaysOn_71 (lv_at hl 3 rfl) ?_
              refine lv_aload_n hx hb dX4_countWaysOn_73 rfl (lv_at hl 0 rfl) ?_
              refine gf_X4_57 hB hP 0 rfl rfl dX4_countWaysOn_74 ?_
              refine lv_iload_n hx hb dX4_countWaysOn_77 rfl (lv_at hl 1 rfl) ?_
              refine lv_iconst hx hb dX4_countWaysOn_78 kc_i_1 ?_
              refine lv_iload hx hb dX4_countWaysOn_79 (lv_at hl 4 rfl) ?_
              refine lv_ishl hx hb dX4_countWaysOn_81 ?_
              refine lv_ior hx hb dX4_countWaysOn_82 ?_
              obtain ⟨h_in, hf⟩ := hf
              refine va_iald hx hb hB.K hP 2 0 rfl rfl h_in dX4_countWaysOn_83 ?_
              refine lv_iadd hx hb dX4_countWaysOn_84 ?_
              refine lv_istore (lv' := [(4, .int (j38_x4 + (g38_v_ways (g38_x2 ||| (1 <<< (j38_x5 &&& 31))).toNatClampNeg))), (0, .ref a_t), (2, .int g38_x2), (3, .int g38_x3), (5, .int j38_x5)]) hx hb dX4_countWaysOn_85 hl (by decide) rfl (fun ls hl => ?_)
              refine lv_iinc (v := j38_x5 + 1) (lv' := [(5, .int (j38_x5 + 1)), (4, .int (j38_x4 + (g38_v_ways (g38_x2 ||| (1 <<< (j38_x5 &&& 31))).toNatClampNeg))), (0, .ref a_t), (2, .int g38_x2), (3, .int g38_x3)]) hx hb dX4_countWaysOn_87 hl (k := 4) rfl (by rw [kc_i_1]) (by decide) rfl (fun ls hl => ?_)
              refine lv_goto (tgt := 38) hx hb dX4_countWaysOn_90 (by decide) ?_
              exact ih_38 (j38_x4 + (g38_v_ways (g38_x2 ||| (1 <<< (j38_x5 &&& 31))).toNatClampNeg)) (j38_x5 + 1) ls H locs hf (lv_sub hl [2, 3, 4, 1, 0] rfl) hP hD hS
      intro j19_x2 j19_v_ways ls H locs hf hl hP hD hS
      replace hf : f_X4_countWaysOn_19 v_told_storeys v_told_weight v_told_folk v_told_bears v_told_kind v_told_cellars v_told_mustBeAbove v_told_strength post (mx_l2 (f_X4_countWaysOn_19 v_told_storeys v_told_weight v_told_folk v_told_bears v_told_kind v_told_cellars v_told_mustBeAbove v_told_strength post) n_19) j19_x2 j19_v_ways := hf
      refine lv_iload_n hx hb dX4_countWaysOn_19 rfl (lv_at hl 1 rfl) ?_
      refine lv_if_lt (tgt := 107) hx hb dX4_countWaysOn_20 (by decide) (fun c20 => ?_) (fun c20 => ?_)
      · have hf := hf.1 c20
        exact hRet j19_v_ways 107 ls H locs dX4_countWaysOn_107 hf hP hS
      · have hf := hf.2 c20
        refine lv_aload_n hx hb dX4_countWaysOn_23 rfl (lv_at hl 0 rfl) ?_
        refine gf_X4_19 hB hP 0 rfl rfl dX4_countWaysOn_24 ?_
        refine lv_iload_n hx hb dX4_countWaysOn_27 rfl (lv_at hl 1 rfl) ?_
        refine mx_gi (mx_runN (As := [.int j19_x2]) (rest := []) hB (c_X1_loadOf l E a_told a_told_kind a_told_weight a_told_strength a_told_height a_told_folk a_told_mustBeAbove a_told_wind v_told_storeys v_told_pairs v_told_bears v_told_soft v_told_cellars v_told_weight v_told_folk j19_x2 _ hf) sB_X1_loadOf sV_X1_loadOf wmn_X4_119 rfl (mx_ppV hB hP [1, 3, 4] rfl 1 rfl rfl rfl) hl.1 rfl (Nat.le_of_ble_eq_true rfl) dX4_countWaysOn_28 ⟨Nat.zero_le _, Nat.zero_le _⟩) (fun r1 hf => ?_)
        refine lv_istore_n (lv' := [(3, .int r1), (0, .ref a_t), (2, .int j19_x2)]) hx hb dX4_countWaysOn_31 rfl hl (by decide) rfl (fun ls hl => ?_)
        refine lv_iconst hx hb dX4_countWaysOn_32 kc_i_0 ?_
        refine lv_istore (lv' := [(4, .int 0), (3, .int r1), (0, .ref a_t), (2, .int j19_x2)]) hx hb dX4_countWaysOn_33 hl (by decide) rfl (fun ls hl => ?_)
        refine lv_iconst hx hb dX4_countWaysOn_35 kc_i_0 ?_
        refine lv_istore (lv' := [(5, .int 0), (4, .int 0), (3, .int r1), (0, .ref a_t), (2, .int j19_x2)]) hx hb dX4_countWaysOn_36 hl (by decide) rfl (fun ls hl => ?_)
        obtain ⟨n9, hf⟩ := hf
        exact L_38 j19_x2 r1 j19_v_ways n9 0 0 ls H locs hf (lv_sub hl [3, 4, 2, 1, 0] rfl) hP hD hS
  obtain ⟨H, locs, eH, eL⟩ : ∃ (H : Heap) (locs : List Loc), H = s.heap ∧ locs = [] := ⟨_, _, rfl, rfl⟩
  rw [← eH] at hP
  have hS : va_S A s.heap H locs := by rw [eH, eL]; exact hS
  show W p l e rm_X4_countWaysOn s m args below meth c s.heap [] 0 0 Q (F0 m 0 ls [])
  rw [← eH, ← eL]
  refine lv_aload_n hx hb dX4_countWaysOn_0 rfl (lv_at hl 0 rfl) ?_
  refine gf_X4_19 hB hP 0 rfl rfl dX4_countWaysOn_1 ?_
  refine mx_gi (mx_runN (As := []) (rest := []) hB (c_X1_all l E a_told a_told_kind a_told_weight a_told_strength a_told_height a_told_folk a_told_mustBeAbove a_told_wind v_told_storeys v_told_pairs v_told_bears v_told_soft v_told_cellars _ hf) sB_X1_all sV_X1_all wmn_X4_170 rfl (mx_ppV hB hP [1] rfl 1 rfl rfl rfl) hl.1 rfl (Nat.le_of_ble_eq_true rfl) dX4_countWaysOn_4 ⟨Nat.zero_le _, Nat.zero_le _⟩) (fun r1 hf => ?_)
  refine lv_istore_n (lv' := [(1, .int r1), (0, .ref a_t)]) hx hb dX4_countWaysOn_7 rfl hl (by decide) rfl (fun ls hl => ?_)
  refine lv_aload_n hx hb dX4_countWaysOn_8 rfl (lv_at hl 1 rfl) ?_
  refine gf_X4_57 hB hP 0 rfl rfl dX4_countWaysOn_9 ?_
  refine lv_iload_n hx hb dX4_countWaysOn_12 rfl (lv_at hl 0 rfl) ?_
  refine lv_iconst hx hb dX4_countWaysOn_13 kc_i_1 ?_
  obtain ⟨h_in, hf⟩ := hf
  refine va_iast hx hb hB.K hP hD hS 2 0 rfl rfl h_in dX4_countWaysOn_14 (fun H locs hP hD hS => ?_)
  have hP : va_P E.1 vwCl (w_X4_countWaysOn E a_t a_text a_told a_reader a_tower a_kept a_isKept a_lifts a_seenAt a_seenInches a_ways a_trial a_told_kind a_told_weight a_told_strength a_told_height a_told_folk a_told_mustBeAbove a_told_wind v_liftsMany v_seenMany v_told_storeys v_told_pairs v_told_bears v_told_soft v_told_cellars (upd v_ways r1.toNatClampNeg 1) v_told_weight v_told_folk v_told_kind v_told_mustBeAbove v_told_strength) H := hP
  have hD : va_D A (w_X4_countWaysOn E a_t a_text a_told a_reader a_tower a_kept a_isKept a_lifts a_seenAt a_seenInches a_ways a_trial a_told_kind a_told_weight a_told_strength a_told_height a_told_folk a_told_mustBeAbove a_told_wind v_liftsMany v_seenMany v_told_storeys v_told_pairs v_told_bears v_told_soft v_told_cellars (upd v_ways r1.toNatClampNeg 1) v_told_weight v_told_folk v_told_kind v_told_mustBeAbove v_told_strength) := hD
  refine lv_iload_n hx hb dX4_countWaysOn_15 rfl (lv_at hl 0 rfl) ?_
  refine lv_iconst hx hb dX4_countWaysOn_16 kc_i_1 ?_
  refine lv_isub hx hb dX4_countWaysOn_17 ?_
  refine lv_istore_n (lv' := [(2, .int (r1 - 1)), (1, .int r1), (0, .ref a_t)]) hx hb dX4_countWaysOn_18 rfl hl (by decide) rfl (fun ls hl => ?_)
  obtain ⟨n9, hf⟩ := hf
  exact L_19  n9 (r1 - 1) (upd v_ways r1.toNatClampNeg 1) ls H locs hf (lv_sub hl [2, 0] rfl) hP hD hS
theorem c_X4_countWaysOn (l : Launch) (E : mx_E) (a_t : Nat) (a_text : Nat) (a_told : Nat) (a_reader : Nat) (a_tower : Nat) (a_kept : Nat) (a_isKept : Nat) (a_lifts : Nat) (a_seenAt : Nat) (a_seenInches : Nat) (a_ways : Nat) (a_trial : Nat) (a_told_kind : Nat) (a_told_weight : Nat) (a_told_strength : Nat) (a_told_height : Nat) (a_told_folk : Nat) (a_told_mustBeAbove : Nat) (a_told_wind : Nat) (v_liftsMany : Int32) (v_seenMany : Int32) (v_told_storeys : Int32) (v_told_pairs : Int32) (v_told_bears : Int32) (v_told_soft : Int32) (v_told_cellars : Int32) (v_ways : (Nat → Int32)) (v_told_weight : (Nat → Int32)) (v_told_folk : (Nat → Int32)) (v_told_kind : (Nat → Int32)) (v_told_mustBeAbove : (Nat → Int32)) (v_told_strength : (Nat → Int32)) (sz : Nat)  (post : (Nat → Int32) → Prop) (hf : f_X4_countWaysOn v_told_storeys v_told_weight v_told_folk v_told_bears v_told_kind v_told_cellars v_told_mustBeAbove v_told_strength v_ways post) : Met l yX4_countWaysOn (Cond.code yX4_countWaysOn cX4_countWaysOn 6 none :: mx_WS) rm_X4_countWaysOn (va_Pc [.ref a_t] (mx_Pw E (w_X4_countWaysOn E a_t a_text a_told a_reader a_tower a_kept a_isKept a_lifts a_seenAt a_seenInches a_ways a_trial a_told_kind a_told_weight a_told_strength a_told_height a_told_folk a_told_mustBeAbove a_told_wind v_liftsMany v_seenMany v_told_storeys v_told_pairs v_told_bears v_told_soft v_told_cellars v_ways v_told_weight v_told_folk v_told_kind v_told_mustBeAbove v_told_strength) sz)) (va_Qv (fun (u : (Nat → Int32)) => post u) (fun u t => va_P E.1 vwCl (w_X4_countWaysOn E a_t a_text a_told a_reader a_tower a_kept a_isKept a_lifts a_seenAt a_seenInches a_ways a_trial a_told_kind a_told_weight a_told_strength a_told_height a_told_folk a_told_mustBeAbove a_told_wind v_liftsMany v_seenMany v_told_storeys v_told_pairs v_told_bears v_told_soft v_told_cellars u v_told_weight v_told_folk v_told_kind v_told_mustBeAbove v_told_strength) t.heap) (va_A (w_X4_countWaysOn E a_t a_text a_told a_reader a_tower a_kept a_isKept a_lifts a_seenAt a_seenInches a_ways a_trial a_told_kind a_told_weight a_told_strength a_told_height a_told_folk a_told_mustBeAbove a_told_wind v_liftsMany v_seenMany v_told_storeys v_told_pairs v_told_bears v_told_soft v_told_cellars v_ways v_told_weight v_told_folk v_told_kind v_told_mustBeAbove v_told_strength) sz)) 0 0 (va_A (w_X4_countWaysOn E a_t a_text a_told a_reader a_tower a_kept a_isKept a_lifts a_seenAt a_seenInches a_ways a_trial a_told_kind a_told_weight a_told_strength a_told_height a_told_folk a_told_mustBeAbove a_told_wind v_liftsMany v_seenMany v_told_storeys v_told_pairs v_told_bears v_told_soft v_told_cellars v_ways v_told_weight v_told_folk v_told_kind v_told_mustBeAbove v_told_strength) sz) :=
  mx_metWv (by decide) rfl rfl (fun hB hP hD hA hRet ls hl => b_X4_countWaysOn E a_t a_text a_told a_reader a_tower a_kept a_isKept a_lifts a_seenAt a_seenInches a_ways a_trial a_told_kind a_told_weight a_told_strength a_told_height a_told_folk a_told_mustBeAbove a_told_wind v_liftsMany v_seenMany v_told_storeys v_told_pairs v_told_bears v_told_soft v_told_cellars v_ways v_told_weight v_told_folk v_told_kind v_told_mustBeAbove v_told_strength  post hB hP hD hA hRet hf ls hl)
def rm_X4_leastWithWayOn : Room := { frames := 3, cells := 0, slots := 0, locals := 66 }
set_option maxHeartbeats 4000000 in
set_option maxRecDepth 100000 in
theorem b_X4_leastWithWayOn {p : Program} {l : Launch} {e : Env} {s : State} {m : MethodId} {args : Array Value} {below : List Frame} {meth : Method} {c : Code} {Q : State → Prop} (E : mx_E) (a_t : Nat) (a_text : Nat) (a_told : Nat) (a_reader : Nat) (a_tower : Nat) (a_kept : Nat) (a_isKept : Nat) (a_lifts : Nat) (a_seenAt : Nat) (a_seenInches : Nat) (a_ways : Nat) (a_trial : Nat) (a_told_kind : Nat) (a_told_weight : Nat) (a_told_strength : Nat) (a_told_height : Nat) (a_told_folk : Nat) (a_told_mustBeAbove : Nat) (a_told_wind : Nat) (v_liftsMany : Int32) (v_seenMany : Int32) (v_told_storeys : Int32) (v_told_pairs : Int32) (v_told_bears : Int32) (v_told_soft : Int32) (v_told_cellars : Int32) (v_told_weight : (Nat → Int32)) (v_told_folk : (Nat → Int32)) (v_told_kind : (Nat → Int32)) (v_told_mustBeAbove : (Nat → Int32)) (v_told_strength : (Nat → Int32)) (v_ways : (Nat → Int32)) (x1 : Int32) (post : Int32 → Prop) (hB : mx_B p m c cX4_leastWithWayOn 4 s args RX4 E) (hP : va_P E.1 vwCl (w_X4_leastWithWayOn E a_t a_text a_told a_reader a_tower a_kept a_isKept a_lifts a_seenAt a_seenInches a_ways a_trial a_told_kind a_told_weight a_told_strength a_told_height a_told_folk a_told_mustBeAbove a_told_wind v_liftsMany v_seenMany v_told_storeys v_told_pairs v_told_bears v_told_soft v_told_cellars v_told_weight v_told_folk v_told_kind v_told_mustBeAbove v_told_strength v_ways) s.heap) (hRet : ∀ (v : Int32) (pc : Nat) (ls : Array Slot), decode cX4_leastWithWayOn pc = .ok (.ireturn, 1) → post v → W p l e rm_X4_leastWithWayOn s m args below meth c s.heap [] 0 0 Q (F0 m pc ls [.int v])) (hf : f_X4_leastWithWayOn v_told_storeys v_told_weight v_told_folk v_told_bears v_told_kind v_told_cellars v_told_mustBeAbove v_told_strength v_ways x1 post) (ls : Array Slot) (hl : lv_has ls 4 [(0, .ref a_t), (1, .int x1)]) : W p l e rm_X4_leastWithWayOn s m args below meth c s.heap [] 0 0 Q (F0 m 0 ls []) := by
  have hx := hB.x
  have hb := hB.b
  have L_11 : ∀ (g11_x1 : Int32) (g11_x2 : Int32) (n : Nat) (j11_x3 : Int32) (ls : Array Slot), mx_l1 (f_X4_leastWithWayOn_11 v_told_storeys v_told_weight v_told_folk v_told_bears v_told_kind v_told_cellars v_told_mustBeAbove v_told_strength v_ways post g11_x1 g11_x2) n j11_x3 → lv_has ls 4 [(0, .ref a_t), (1, .int g11_x1), (2, .int g11_x2), (3, .int j11_x3)] → W p l e rm_X4_leastWithWayOn s m args below meth c s.heap [] 0 0 Q (F0 m 11 ls []) := by
    intro g11_x1 g11_x2 n_11
    induction n_11 with
    | zero =>
      intro j11_x3 ls hf hl
      exact False.elim hf
    | succ n_11 ih_11 =>
      intro j11_x3 ls hf hl
      replace hf : f_X4_leastWithWayOn_11 v_told_storeys v_told_weight v_told_folk v_told_bears v_told_kind v_told_cellars v_told_mustBeAbove v_told_strength v_ways post g11_x1 g11_x2 (mx_l1 (f_X4_leastWithWayOn_11 v_told_storeys v_told_weight v_told_folk v_told_bears v_told_kind v_told_cellars v_told_mustBeAbove v_told_strength v_ways post g11_x1 g11_x2) n_11) j11_x3 := hf
      refine lv_iload_n hx hb dX4_leastWithWayOn_11 rfl (lv_at hl 3 rfl) ?_
      refine lv_aload_n hx hb dX4_leastWithWayOn_12 rfl (lv_at hl 0 rfl) ?_
      refine gf_X4_19 hB hP 0 rfl rfl dX4_leastWithWayOn_13 ?_
      refine gf_X4_164 hB hP 1 rfl rfl dX4_leastWithWayOn_16 ?_
      refine lv_icmp_ge (tgt := 63) hx hb dX4_leastWithWayOn_19 (by decide) (fun c19 => ?_) (fun c19 => ?_)
      · have hf := hf.1 c19
        refine lv_iconst hx hb dX4_leastWithWayOn_63 kc_i_m1 ?_
        exact hRet (-1) 64 ls dX4_leastWithWayOn_64 hf
      · have hf := hf.2 c19
        refine lv_aload_n hx hb dX4_leastWithWayOn_22 rfl (lv_at hl 0 rfl) ?_
        refine gf_X4_19 hB hP 0 rfl rfl dX4_leastWithWayOn_23 ?_
        refine lv_iload_n hx hb dX4_leastWithWayOn_26 rfl (lv_at hl 3 rfl) ?_
        refine lv_iload_n hx hb dX4_leastWithWayOn_27 rfl (lv_at hl 1 rfl) ?_
        refine lv_iload_n hx hb dX4_leastWithWayOn_28 rfl (lv_at hl 2 rfl) ?_
        refine lv_aload_n hx hb dX4_leastWithWayOn_29 rfl (lv_at hl 0 rfl) ?_
        refine gf_X4_19 hB hP 0 rfl rfl dX4_leastWithWayOn_30 ?_
        refine gf_X4_173 hB hP 1 rfl rfl dX4_leastWithWayOn_33 ?_
        refine mx_gi (mx_runN (As := [.int j11_x3, .int g11_x1, .int g11_x2, .int v_told_bears]) (rest := []) hB (c_X1_whyNot l E a_told a_told_kind a_told_weight a_told_strength a_told_height a_told_folk a_told_mustBeAbove a_told_wind v_told_storeys v_told_pairs v_told_bears v_told_soft v_told_cellars v_told_kind v_told_mustBeAbove v_told_strength j11_x3 g11_x1 g11_x2 v_told_bears _ hf) sB_X1_whyNot sV_X1_whyNot wmn_X4_176 rfl (mx_ppV hB hP [1, 4, 5, 6] rfl 1 rfl rfl rfl) hl.1 rfl (Nat.le_of_ble_eq_true rfl) dX4_leastWithWayOn_36 ⟨Nat.zero_le _, Nat.zero_le _⟩) (fun r1 hf => ?_)
        refine lv_if_ne (tgt := 57) hx hb dX4_leastWithWayOn_39 (by decide) (fun c39 => ?_) (fun c39 => ?_)
        · have hf := hf.1 c39
          refine lv_iinc (v := j11_x3 + 1) (lv' := [(3, .int (j11_x3 + 1)), (0, .ref a_t), (1, .int g11_x1), (2, .int g11_x2)]) hx hb dX4_leastWithWayOn_57 hl (k := 3) rfl (by rw [kc_i_1]) (by decide) rfl (fun ls hl => ?_)
          refine lv_goto (tgt := 11) hx hb dX4_leastWithWayOn_60 (by decide) ?_
          exact ih_11 (j11_x3 + 1) ls hf (lv_sub hl [1, 2, 3, 0] rfl)
        · have hf := hf.2 c39
          refine lv_aload_n hx hb dX4_leastWithWayOn_42 rfl (lv_at hl 0 rfl) ?_
          refine gf_X4_57 hB hP 0 rfl rfl dX4_leastWithWayOn_43 ?_
          refine lv_iload_n hx hb dX4_leastWithWayOn_46 rfl (lv_at hl 1 rfl) ?_
          refine lv_iconst hx hb dX4_leastWithWayOn_47 kc_i_1 ?_
          refine lv_iload_n hx hb dX4_leastWithWayOn_48 rfl (lv_at hl 3 rfl) ?_
          refine lv_ishl hx hb dX4_leastWithWayOn_49 ?_
          refine lv_ior hx hb dX4_leastWithWayOn_50 ?_
          obtain ⟨h_in, hf⟩ := hf
          refine va_iald hx hb hB.K hP 7 0 rfl rfl h_in dX4_leastWithWayOn_51 ?_
          refine lv_if_le (tgt := 57) hx hb dX4_leastWithWayOn_52 (by decide) (fun c52 => ?_) (fun c52 => ?_)
          · have hf := hf.1 c52
            refine lv_iinc (v := j11_x3 + 1) (lv' := [(3, .int (j11_x3 + 1)), (0, .ref a_t), (1, .int g11_x1), (2, .int g11_x2)]) hx hb dX4_leastWithWayOn_57 hl (k := 3) rfl (by rw [kc_i_1]) (by decide) rfl (fun ls hl => ?_)
            refine lv_goto (tgt := 11) hx hb dX4_leastWithWayOn_60 (by decide) ?_
            exact ih_11 (j11_x3 + 1) ls hf (lv_sub hl [1, 2, 3, 0] rfl)
          · have hf := hf.2 c52
            refine lv_iload_n hx hb dX4_leastWithWayOn_55 rfl (lv_at hl 3 rfl) ?_
            exact hRet j11_x3 56 ls dX4_leastWithWayOn_56 hf
  refine lv_aload_n hx hb dX4_leastWithWayOn_0 rfl (lv_at hl 0 rfl) ?_
  refine gf_X4_19 hB hP 0 rfl rfl dX4_leastWithWayOn_1 ?_
  refine lv_iload_n hx hb dX4_leastWithWayOn_4 rfl (lv_at hl 1 rfl) ?_
  refine mx_gi (mx_runN (As := [.int x1]) (rest := []) hB (c_X1_loadOf l E a_told a_told_kind a_told_weight a_told_strength a_told_height a_told_folk a_told_mustBeAbove a_told_wind v_told_storeys v_told_pairs v_told_bears v_told_soft v_told_cellars v_told_weight v_told_folk x1 _ hf) sB_X1_loadOf sV_X1_loadOf wmn_X4_119 rfl (mx_ppV hB hP [1, 2, 3] rfl 1 rfl rfl rfl) hl.1 rfl (Nat.le_of_ble_eq_true rfl) dX4_leastWithWayOn_5 ⟨Nat.zero_le _, Nat.zero_le _⟩) (fun r1 hf => ?_)
  refine lv_istore_n (lv' := [(2, .int r1), (0, .ref a_t), (1, .int x1)]) hx hb dX4_leastWithWayOn_8 rfl hl (by decide) rfl (fun ls hl => ?_)
  refine lv_iconst hx hb dX4_leastWithWayOn_9 kc_i_0 ?_
  refine lv_istore_n (lv' := [(3, .int 0), (2, .int r1), (0, .ref a_t), (1, .int x1)]) hx hb dX4_leastWithWayOn_10 rfl hl (by decide) rfl (fun ls hl => ?_)
  obtain ⟨n9, hf⟩ := hf
  exact L_11 x1 r1 n9 0 ls hf (lv_sub hl [2, 3, 1, 0] rfl)
theorem c_X4_leastWithWayOn (l : Launch) (E : mx_E) (a_t : Nat) (a_text : Nat) (a_told : Nat) (a_reader : Nat) (a_tower : Nat) (a_kept : Nat) (a_isKept : Nat) (a_lifts : Nat) (a_seenAt : Nat) (a_seenInches : Nat) (a_ways : Nat) (a_trial : Nat) (a_told_kind : Nat) (a_told_weight : Nat) (a_told_strength : Nat) (a_told_height : Nat) (a_told_folk : Nat) (a_told_mustBeAbove : Nat) (a_told_wind : Nat) (v_liftsMany : Int32) (v_seenMany : Int32) (v_told_storeys : Int32) (v_told_pairs : Int32) (v_told_bears : Int32) (v_told_soft : Int32) (v_told_cellars : Int32) (v_told_weight : (Nat → Int32)) (v_told_folk : (Nat → Int32)) (v_told_kind : (Nat → Int32)) (v_told_mustBeAbove : (Nat → Int32)) (v_told_strength : (Nat → Int32)) (v_ways : (Nat → Int32)) (x1 : Int32) (post : Int32 → Prop) (hf : f_X4_leastWithWayOn v_told_storeys v_told_weight v_told_folk v_told_bears v_told_kind v_told_cellars v_told_mustBeAbove v_told_strength v_ways x1 post) : Met l yX4_leastWithWayOn (Cond.code yX4_leastWithWayOn cX4_leastWithWayOn 4 (some .int) :: mx_WS) rm_X4_leastWithWayOn (va_Pc [.ref a_t, .int x1] (mx_Pp E (w_X4_leastWithWayOn E a_t a_text a_told a_reader a_tower a_kept a_isKept a_lifts a_seenAt a_seenInches a_ways a_trial a_told_kind a_told_weight a_told_strength a_told_height a_told_folk a_told_mustBeAbove a_told_wind v_liftsMany v_seenMany v_told_storeys v_told_pairs v_told_bears v_told_soft v_told_cellars v_told_weight v_told_folk v_told_kind v_told_mustBeAbove v_told_strength v_ways))) (vp_Si post) 0 0 (fun _ => False) :=
  mx_metPi (by decide) rfl rfl (fun hB hP hRet ls hl => b_X4_leastWithWayOn E a_t a_text a_told a_reader a_tower a_kept a_isKept a_lifts a_seenAt a_seenInches a_ways a_trial a_told_kind a_told_weight a_told_strength a_told_height a_told_folk a_told_mustBeAbove a_told_wind v_liftsMany v_seenMany v_told_storeys v_told_pairs v_told_bears v_told_soft v_told_cellars v_told_weight v_told_folk v_told_kind v_told_mustBeAbove v_told_strength v_ways x1 post hB hP hRet hf ls hl)
