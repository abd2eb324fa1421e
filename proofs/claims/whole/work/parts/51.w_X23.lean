def rm_X2_endOfThose : Room := { frames := 0, cells := 0, slots := 0, locals := 0 }
set_option maxHeartbeats 4000000 in
set_option maxRecDepth 100000 in
theorem b_X2_endOfThose {p : Program} {l : Launch} {e : Env} {s : State} {m : MethodId} {args : Array Value} {below : List Frame} {meth : Method} {c : Code} {Q : State → Prop} (E : mx_E) (a_t : Nat) (a_bytes : Nat) (v_length : Int32) (v_bytes : (Nat → Int32)) (x1 : Int32) (x2 : Int32) (x3 : Int32) (post : Int32 → Prop) (hB : mx_B p m c cX2_endOfThose 5 s args RX2 E) (hP : va_P E.1 vwCl (w_X2_endOfThose E a_t a_bytes v_length v_bytes) s.heap) (hRet : ∀ (v : Int32) (pc : Nat) (ls : Array Slot), decode cX2_endOfThose pc = .ok (.ireturn, 1) → post v → W p l e rm_X2_endOfThose s m args below meth c s.heap [] 0 0 Q (F0 m pc ls [.int v])) (hf : f_X2_endOfThose v_length v_bytes x1 x2 x3 post) (ls : Array Slot) (hl : lv_has ls 5 [(0, .ref a_t), (1, .int x1), (2, .int x2), (3, .int x3)]) : W p l e rm_X2_endOfThose s m args below meth c s.heap [] 0 0 Q (F0 m 0 ls []) := by
  have hx := hB.x
  have hb := hB.b
  have L_3 : ∀ (g3_x2 : Int32) (g3_x3 : Int32) (n : Nat) (j3_x4 : Int32) (ls : Array Slot), mx_l1 (f_X2_endOfThose_3 v_length v_bytes post g3_x2 g3_x3) n j3_x4 → lv_has ls 5 [(0, .ref a_t), (2, .int g3_x2), (3, .int g3_x3), (4, .int j3_x4)] → W p l e rm_X2_endOfThose s m args below meth c s.heap [] 0 0 Q (F0 m 3 ls []) := by
    intro g3_x2 g3_x3 n_3
    induction n_3 with
    | zero =>
      intro j3_x4 ls hf hl
      exact False.elim hf
    | succ n_3 ih_3 =>
      intro j3_x4 ls hf hl
      replace hf : f_X2_endOfThose_3 v_length v_bytes post g3_x2 g3_x3 (mx_l1 (f_X2_endOfThose_3 v_length v_bytes post g3_x2 g3_x3) n_3) j3_x4 := hf
      refine lv_iload hx hb dX2_endOfThose_3 (lv_at hl 3 rfl) ?_
      refine lv_if_lt (tgt := 45) hx hb dX2_endOfThose_5 (by decide) (fun c5 => ?_) (fun c5 => ?_)
      · have hf := hf.1 c5
        refine lv_iload hx hb dX2_endOfThose_45 (lv_at hl 3 rfl) ?_
        exact hRet j3_x4 47 ls dX2_endOfThose_47 hf
      · have hf := hf.2 c5
        refine lv_iload hx hb dX2_endOfThose_8 (lv_at hl 3 rfl) ?_
        refine lv_aload_n hx hb dX2_endOfThose_10 rfl (lv_at hl 0 rfl) ?_
        refine gf_X2_15 hB hP 0 rfl rfl dX2_endOfThose_11 ?_
        refine lv_icmp_ge (tgt := 45) hx hb dX2_endOfThose_14 (by decide) (fun c14 => ?_) (fun c14 => ?_)
        · have hf := hf.1 c14
          refine lv_iload hx hb dX2_endOfThose_45 (lv_at hl 3 rfl) ?_
          exact hRet j3_x4 47 ls dX2_endOfThose_47 hf
        · have hf := hf.2 c14
          refine lv_aload_n hx hb dX2_endOfThose_17 rfl (lv_at hl 0 rfl) ?_
          refine gf_X2_9 hB hP 0 rfl rfl dX2_endOfThose_18 ?_
          refine lv_iload hx hb dX2_endOfThose_21 (lv_at hl 3 rfl) ?_
          obtain ⟨h_in, hf⟩ := hf
          refine va_cald hx hb hB.K hP 1 1 rfl rfl h_in dX2_endOfThose_23 ?_
          refine lv_iload_n hx hb dX2_endOfThose_24 rfl (lv_at hl 1 rfl) ?_
          refine lv_icmp_lt (tgt := 45) hx hb dX2_endOfThose_25 (by decide) (fun c25 => ?_) (fun c25 => ?_)
          · have hf := hf.1 c25
            refine lv_iload hx hb dX2_endOfThose_45 (lv_at hl 3 rfl) ?_
            exact hRet j3_x4 47 ls dX2_endOfThose_47 hf
          · have hf := hf.2 c25
            refine lv_aload_n hx hb dX2_endOfThose_28 rfl (lv_at hl 0 rfl) ?_
            refine gf_X2_9 hB hP 0 rfl rfl dX2_endOfThose_29 ?_
            refine lv_iload hx hb dX2_endOfThose_32 (lv_at hl 3 rfl) ?_
            obtain ⟨h_in, hf⟩ := hf
            refine va_cald hx hb hB.K hP 1 1 rfl rfl h_in dX2_endOfThose_34 ?_
            refine lv_iload_n hx hb dX2_endOfThose_35 rfl (lv_at hl 2 rfl) ?_
            refine lv_icmp_gt (tgt := 45) hx hb dX2_endOfThose_36 (by decide) (fun c36 => ?_) (fun c36 => ?_)
            · have hf := hf.1 c36
              refine lv_iload hx hb dX2_endOfThose_45 (lv_at hl 3 rfl) ?_
              exact hRet j3_x4 47 ls dX2_endOfThose_47 hf
            · have hf := hf.2 c36
              refine lv_iinc (v := j3_x4 + 1) (lv' := [(4, .int (j3_x4 + 1)), (0, .ref a_t), (2, .int g3_x2), (3, .int g3_x3)]) hx hb dX2_endOfThose_39 hl (k := 3) rfl (by rw [kc_i_1]) (by decide) rfl (fun ls hl => ?_)
              refine lv_goto (tgt := 3) hx hb dX2_endOfThose_42 (by decide) ?_
              exact ih_3 (j3_x4 + 1) ls hf (lv_sub hl [1, 2, 3, 0] rfl)
  refine lv_iload_n hx hb dX2_endOfThose_0 rfl (lv_at hl 1 rfl) ?_
  refine lv_istore (lv' := [(4, .int x1), (0, .ref a_t), (1, .int x1), (2, .int x2), (3, .int x3)]) hx hb dX2_endOfThose_1 hl (by decide) rfl (fun ls hl => ?_)
  obtain ⟨n9, hf⟩ := hf
  exact L_3 x2 x3 n9 x1 ls hf (lv_sub hl [1, 3, 4, 0] rfl)
theorem c_X2_endOfThose (l : Launch) (E : mx_E) (a_t : Nat) (a_bytes : Nat) (v_length : Int32) (v_bytes : (Nat → Int32)) (x1 : Int32) (x2 : Int32) (x3 : Int32) (post : Int32 → Prop) (hf : f_X2_endOfThose v_length v_bytes x1 x2 x3 post) : Met l yX2_endOfThose (Cond.code yX2_endOfThose cX2_endOfThose 5 (some .int) :: mx_WS) rm_X2_endOfThose (va_Pc [.ref a_t, .int x1, .int x2, .int x3] (mx_Pp E (w_X2_endOfThose E a_t a_bytes v_length v_bytes))) (vp_Si post) 0 0 (fun _ => False) :=
  mx_metPi (by decide) rfl rfl (fun hB hP hRet ls hl => b_X2_endOfThose E a_t a_bytes v_length v_bytes x1 x2 x3 post hB hP hRet hf ls hl)
def rm_X2_isBetween : Room := { frames := 0, cells := 0, slots := 0, locals := 0 }
set_option maxHeartbeats 4000000 in
set_option maxRecDepth 100000 in
theorem b_X2_isBetween {p : Program} {l : Launch} {e : Env} {s : State} {m : MethodId} {args : Array Value} {below : List Frame} {meth : Method} {c : Code} {Q : State → Prop} (E : mx_E) (a_t : Nat) (a_bytes : Nat) (v_length : Int32) (v_bytes : (Nat → Int32)) (x1 : Int32) (x2 : Int32) (x3 : Int32) (post : Int32 → Prop) (hB : mx_B p m c cX2_isBetween 4 s args RX2 E) (hP : va_P E.1 vwCl (w_X2_isBetween E a_t a_bytes v_length v_bytes) s.heap) (hRet : ∀ (v : Int32) (pc : Nat) (ls : Array Slot), decode cX2_isBetween pc = .ok (.ireturn, 1) → (v = 0 ∨ v = 1) → post v → W p l e rm_X2_isBetween s m args below meth c s.heap [] 0 0 Q (F0 m pc ls [.int v])) (hf : f_X2_isBetween v_length v_bytes x1 x2 x3 post) (ls : Array Slot) (hl : lv_has ls 4 [(0, .ref a_t), (1, .int x1), (2, .int x2), (3, .int x3)]) : W p l e rm_X2_isBetween s m args below meth c s.heap [] 0 0 Q (F0 m 0 ls []) := by
  have hx := hB.x
  have hb := hB.b
  refine lv_iload_n hx hb dX2_isBetween_0 rfl (lv_at hl 1 rfl) ?_
  refine lv_if_lt (tgt := 36) hx hb dX2_isBetween_1 (by decide) (fun c1 => ?_) (fun c1 => ?_)
  · have hf := hf.1 c1
    refine lv_iconst hx hb dX2_isBetween_36 kc_i_0 ?_
    exact hRet 0 37 ls dX2_isBetween_37 (Or.inl rfl) hf
  · have hf := hf.2 c1
    refine lv_iload_n hx hb dX2_isBetween_4 rfl (lv_at hl 1 rfl) ?_
    refine lv_aload_n hx hb dX2_isBetween_5 rfl (lv_at hl 0 rfl) ?_
    refine gf_X2_15 hB hP 0 rfl rfl dX2_isBetween_6 ?_
    refine lv_icmp_ge (tgt := 36) hx hb dX2_isBetween_9 (by decide) (fun c9 => ?_) (fun c9 => ?_)
    · have hf := hf.1 c9
      refine lv_iconst hx hb dX2_isBetween_36 kc_i_0 ?_
      exact hRet 0 37 ls dX2_isBetween_37 (Or.inl rfl) hf
    · have hf := hf.2 c9
      refine lv_aload_n hx hb dX2_isBetween_12 rfl (lv_at hl 0 rfl) ?_
      refine gf_X2_9 hB hP 0 rfl rfl dX2_isBetween_13 ?_
      refine lv_iload_n hx hb dX2_isBetween_16 rfl (lv_at hl 1 rfl) ?_
      obtain ⟨h_in, hf⟩ := hf
      refine va_cald hx hb hB.K hP 1 1 rfl rfl h_in dX2_isBetween_17 ?_
      refine lv_iload_n hx hb dX2_isBetween_18 rfl (lv_at hl 2 rfl) ?_
      refine lv_icmp_lt (tgt := 36) hx hb dX2_isBetween_19 (by decide) (fun c19 => ?_) (fun c19 => ?_)
      · have hf := hf.1 c19
        refine lv_iconst hx hb dX2_isBetween_36 kc_i_0 ?_
        exact hRet 0 37 ls dX2_isBetween_37 (Or.inl rfl) hf
      · have hf := hf.2 c19
        refine lv_aload_n hx hb dX2_isBetween_22 rfl (lv_at hl 0 rfl) ?_
        refine gf_X2_9 hB hP 0 rfl rfl dX2_isBetween_23 ?_
        refine lv_iload_n hx hb dX2_isBetween_26 rfl (lv_at hl 1 rfl) ?_
        obtain ⟨h_in, hf⟩ := hf
        refine va_cald hx hb hB.K hP 1 1 rfl rfl h_in dX2_isBetween_27 ?_
        refine lv_iload_n hx hb dX2_isBetween_28 rfl (lv_at hl 3 rfl) ?_
        refine lv_icmp_gt (tgt := 36) hx hb dX2_isBetween_29 (by decide) (fun c29 => ?_) (fun c29 => ?_)
        · have hf := hf.1 c29
          refine lv_iconst hx hb dX2_isBetween_36 kc_i_0 ?_
          exact hRet 0 37 ls dX2_isBetween_37 (Or.inl rfl) hf
        · have hf := hf.2 c29
          refine lv_iconst hx hb dX2_isBetween_32 kc_i_1 ?_
          refine lv_goto (tgt := 37) hx hb dX2_isBetween_33 (by decide) ?_
          exact hRet 1 37 ls dX2_isBetween_37 (Or.inr rfl) hf
theorem c_X2_isBetween (l : Launch) (E : mx_E) (a_t : Nat) (a_bytes : Nat) (v_length : Int32) (v_bytes : (Nat → Int32)) (x1 : Int32) (x2 : Int32) (x3 : Int32) (post : Int32 → Prop) (hf : f_X2_isBetween v_length v_bytes x1 x2 x3 post) : Met l yX2_isBetween (Cond.code yX2_isBetween cX2_isBetween 4 (some .boolean) :: mx_WS) rm_X2_isBetween (va_Pc [.ref a_t, .int x1, .int x2, .int x3] (mx_Pp E (w_X2_isBetween E a_t a_bytes v_length v_bytes))) (vp_Si post) 0 0 (fun _ => False) :=
  mx_metPz (by decide) rfl rfl (fun hB hP hRet ls hl => b_X2_isBetween E a_t a_bytes v_length v_bytes x1 x2 x3 post hB hP hRet hf ls hl)
def rm_X2_reads : Room := { frames := 4, cells := 0, slots := 0, locals := 85 }
set_option maxHeartbeats 4000000 in
set_option maxRecDepth 100000 in
theorem b_X2_reads {p : Program} {l : Launch} {e : Env} {s : State} {m : MethodId} {args : Array Value} {below : List Frame} {meth : Method} {c : Code} {Q : State → Prop} (E : mx_E) (a_t : Nat) (a_bytes : Nat) (v_length : Int32) (v_bytes : (Nat → Int32)) (x1 : Int32) (x2 : Int32) (a_z : Nat) (wd : List Int32) (post : Int32 → Prop) (hB : mx_B p m c cX2_reads 5 s args RX2 E) (hP : va_P E.1 vwCl (w_X2_reads E a_t a_bytes v_length v_bytes) s.heap) (hz : mx_Str a_z wd s) (hRet : ∀ (v : Int32) (pc : Nat) (ls : Array Slot), decode cX2_reads pc = .ok (.ireturn, 1) → (v = 0 ∨ v = 1) → post v → W p l e rm_X2_reads s m args below meth c s.heap [] 0 0 Q (F0 m pc ls [.int v])) (hf : f_X2_reads v_length v_bytes wd x1 x2 post) (ls : Array Slot) (hl : lv_has ls 5 [(0, .ref a_t), (1, .int x1), (2, .int x2), (3, .ref a_z)]) : W p l e rm_X2_reads s m args below meth c s.heap [] 0 0 Q (F0 m 0 ls []) := by
  have hx := hB.x
  have hb := hB.b
  have L_27 : ∀ (g27_x1 : Int32) (n : Nat) (j27_x4 : Int32) (ls : Array Slot), mx_l1 (f_X2_reads_27 v_length v_bytes wd post g27_x1) n j27_x4 → lv_has ls 5 [(0, .ref a_t), (1, .int g27_x1), (3, .ref a_z), (4, .int j27_x4)] → W p l e rm_X2_reads s m args below meth c s.heap [] 0 0 Q (F0 m 27 ls []) := by
    intro g27_x1 n_27
    induction n_27 with
    | zero =>
      intro j27_x4 ls hf hl
      exact False.elim hf
    | succ n_27 ih_27 =>
      intro j27_x4 ls hf hl
      replace hf : f_X2_reads_27 v_length v_bytes wd post g27_x1 (mx_l1 (f_X2_reads_27 v_length v_bytes wd post g27_x1) n_27) j27_x4 := hf
      refine lv_iload hx hb dX2_reads_27 (lv_at hl 3 rfl) ?_
      refine lv_aload_n hx hb dX2_reads_29 rfl (lv_at hl 2 rfl) ?_
      refine mx_gi (mx_runV (As := []) (rest := [.int j27_x4]) hB (c_J0_length_8abf5 l E a_z wd  _ hf) sB_J0_length_8abf5 sV_J0_length_8abf5 wml_X2_19 rfl (mx_ppS hB hz) hl.1 rfl (Nat.le_of_ble_eq_true rfl) dX2_reads_30 ⟨Nat.zero_le _, Nat.zero_le _⟩) (fun r1 hf => ?_)
      refine lv_icmp_ge (tgt := 62) hx hb dX2_reads_33 (by decide) (fun c33 => ?_) (fun c33 => ?_)
      · have hf := hf.1 c33
        refine lv_iconst hx hb dX2_reads_62 kc_i_1 ?_
        exact hRet 1 63 ls dX2_reads_63 (Or.inr rfl) hf
      · have hf := hf.2 c33
        refine lv_aload_n hx hb dX2_reads_36 rfl (lv_at hl 0 rfl) ?_
        refine gf_X2_9 hB hP 0 rfl rfl dX2_reads_37 ?_
        refine lv_iload_n hx hb dX2_reads_40 rfl (lv_at hl 1 rfl) ?_
        refine lv_iload hx hb dX2_reads_41 (lv_at hl 3 rfl) ?_
        refine lv_iadd hx hb dX2_reads_43 ?_
        obtain ⟨h_in, hf⟩ := hf
        refine va_cald hx hb hB.K hP 1 1 rfl rfl h_in dX2_reads_44 ?_
        refine lv_aload_n hx hb dX2_reads_45 rfl (lv_at hl 2 rfl) ?_
        refine lv_iload hx hb dX2_reads_46 (lv_at hl 3 rfl) ?_
        refine mx_gi (mx_runV (As := [.int j27_x4]) (rest := [.int (v_bytes (g27_x1 + j27_x4).toNatClampNeg)]) hB (c_J0_charAt_5068e l E a_z wd j27_x4 _ hf) sB_J0_charAt_5068e sV_J0_charAt_5068e wml_X2_24 rfl (mx_ppS hB hz) hl.1 rfl (Nat.le_of_ble_eq_true rfl) dX2_reads_48 ⟨Nat.zero_le _, Nat.zero_le _⟩) (fun r2 hf => ?_)
        refine lv_icmp_eq (tgt := 56) hx hb dX2_reads_51 (by decide) (fun c51 => ?_) (fun c51 => ?_)
        · have hf := hf.1 c51
          refine lv_iinc (v := j27_x4 + 1) (lv' := [(4, .int (j27_x4 + 1)), (0, .ref a_t), (1, .int g27_x1), (3, .ref a_z)]) hx hb dX2_reads_56 hl (k := 3) rfl (by rw [kc_i_1]) (by decide) rfl (fun ls hl => ?_)
          refine lv_goto (tgt := 27) hx hb dX2_reads_59 (by decide) ?_
          exact ih_27 (j27_x4 + 1) ls hf (lv_sub hl [1, 2, 3, 0] rfl)
        · have hf := hf.2 c51
          refine lv_iconst hx hb dX2_reads_54 kc_i_0 ?_
          exact hRet 0 55 ls dX2_reads_55 (Or.inl rfl) hf
  refine lv_iload_n hx hb dX2_reads_0 rfl (lv_at hl 1 rfl) ?_
  refine lv_if_lt (tgt := 22) hx hb dX2_reads_1 (by decide) (fun c1 => ?_) (fun c1 => ?_)
  · have hf := hf.1 c1
    refine lv_iconst hx hb dX2_reads_22 kc_i_0 ?_
    exact hRet 0 23 ls dX2_reads_23 (Or.inl rfl) hf
  · have hf := hf.2 c1
    refine lv_iload_n hx hb dX2_reads_4 rfl (lv_at hl 2 rfl) ?_
    refine lv_aload_n hx hb dX2_reads_5 rfl (lv_at hl 0 rfl) ?_
    refine gf_X2_15 hB hP 0 rfl rfl dX2_reads_6 ?_
    refine lv_icmp_gt (tgt := 22) hx hb dX2_reads_9 (by decide) (fun c9 => ?_) (fun c9 => ?_)
    · have hf := hf.1 c9
      refine lv_iconst hx hb dX2_reads_22 kc_i_0 ?_
      exact hRet 0 23 ls dX2_reads_23 (Or.inl rfl) hf
    · have hf := hf.2 c9
      refine lv_iload_n hx hb dX2_reads_12 rfl (lv_at hl 2 rfl) ?_
      refine lv_iload_n hx hb dX2_reads_13 rfl (lv_at hl 1 rfl) ?_
      refine lv_isub hx hb dX2_reads_14 ?_
      refine lv_aload_n hx hb dX2_reads_15 rfl (lv_at hl 3 rfl) ?_
      refine mx_gi (mx_runV (As := []) (rest := [.int (x2 - x1)]) hB (c_J0_length_8abf5 l E a_z wd  _ hf) sB_J0_length_8abf5 sV_J0_length_8abf5 wml_X2_19 rfl (mx_ppS hB hz) hl.1 rfl (Nat.le_of_ble_eq_true rfl) dX2_reads_16 ⟨Nat.zero_le _, Nat.zero_le _⟩) (fun r1 hf => ?_)
      refine lv_icmp_eq (tgt := 24) hx hb dX2_reads_19 (by decide) (fun c19 => ?_) (fun c19 => ?_)
      · have hf := hf.1 c19
        refine lv_iconst hx hb dX2_reads_24 kc_i_0 ?_
        refine lv_istore (lv' := [(4, .int 0), (0, .ref a_t), (1, .int x1), (2, .int x2), (3, .ref a_z)]) hx hb dX2_reads_25 hl (by decide) rfl (fun ls hl => ?_)
        obtain ⟨n9, hf⟩ := hf
        exact L_27 x1 n9 0 ls hf (lv_sub hl [1, 2, 4, 0] rfl)
      · have hf := hf.2 c19
        refine lv_iconst hx hb dX2_reads_22 kc_i_0 ?_
        exact hRet 0 23 ls dX2_reads_23 (Or.inl rfl) hf
theorem c_X2_reads (l : Launch) (E : mx_E) (a_t : Nat) (a_bytes : Nat) (v_length : Int32) (v_bytes : (Nat → Int32)) (x1 : Int32) (x2 : Int32) (a_z : Nat) (wd : List Int32) (post : Int32 → Prop) (hf : f_X2_reads v_length v_bytes wd x1 x2 post) : Met l yX2_reads (Cond.code yX2_reads cX2_reads 5 (some .boolean) :: mx_WS) rm_X2_reads (va_Pc [.ref a_t, .int x1, .int x2, .ref a_z] (mx_Px (mx_Xs E (w_X2_reads E a_t a_bytes v_length v_bytes) a_z wd) E)) (vp_Si post) 0 0 (fun _ => False) :=
  mx_metX (by decide) rfl rfl (fun hB hX hRet ls hl => b_X2_reads E a_t a_bytes v_length v_bytes x1 x2 a_z wd post hB hX.1 hX.2 (fun v pc ls hd h01 hp => hRet v pc ls hd (mx_nz h01) hp) hf ls hl)
def rm_X2_append : Room := { frames := 0, cells := 0, slots := 0, locals := 0 }
set_option maxHeartbeats 4000000 in
set_option maxRecDepth 100000 in
theorem b_X2_append {p : Program} {l : Launch} {e : Env} {s : State} {m : MethodId} {args : Array Value} {below : List Frame} {meth : Method} {c : Code} {Q : State → Prop} {A : Nat → Prop} (E : mx_E) (a_t : Nat) (a_bytes : Nat) (v_length : Int32) (v_bytes : (Nat → Int32)) (x1 : Int32) (post : (Nat → Int32) → Int32 → Prop) (hB : mx_B p m c cX2_append 2 s args RX2 E) (hP : va_P E.1 vwCl (w_X2_append E a_t a_bytes v_length v_bytes) s.heap) (hD : va_D A (w_X2_append E a_t a_bytes v_length v_bytes)) (hA : ∀ q : Nat, s.heap.size ≤ q → A q) (hRet : ∀ (u : (Nat → Int32) × Int32) (pc : Nat) (ls : Array Slot) (H : Heap) (locs : List Loc), decode cX2_append pc = .ok (.return_, 1) → post u.1 u.2 → va_P E.1 vwCl (w_X2_append E a_t a_bytes u.2 u.1) H → va_S A s.heap H locs → W p l e rm_X2_append s m args below meth c H locs 0 0 Q (F0 m pc ls [])) (hf : f_X2_append v_bytes v_length x1 post) (ls : Array Slot) (hl : lv_has ls 2 [(0, .ref a_t), (1, .int x1)]) : W p l e rm_X2_append s m args below meth c s.heap [] 0 0 Q (F0 m 0 ls []) := by
  have hx := hB.x
  have hb := hB.b
  have hS : va_S A s.heap s.heap [] := va_S.rf
  obtain ⟨H, locs, eH, eL⟩ : ∃ (H : Heap) (locs : List Loc), H = s.heap ∧ locs = [] := ⟨_, _, rfl, rfl⟩
  rw [← eH] at hP
  have hS : va_S A s.heap H locs := by rw [eH, eL]; exact hS
  show W p l e rm_X2_append s m args below meth c s.heap [] 0 0 Q (F0 m 0 ls [])
  rw [← eH, ← eL]
  refine lv_aload_n hx hb dX2_append_0 rfl (lv_at hl 0 rfl) ?_
  refine gf_X2_15 hB hP 0 rfl rfl dX2_append_1 ?_
  refine lv_sipush hx hb dX2_append_4 kc_s_200 ?_
  refine lv_icmp_ge (tgt := 31) hx hb dX2_append_7 (by decide) (fun c7 => ?_) (fun c7 => ?_)
  · have hf := hf.1 c7
    exact hRet (v_bytes, v_length) 31 ls H locs dX2_append_31 hf hP hS
  · have hf := hf.2 c7
    refine lv_aload_n hx hb dX2_append_10 rfl (lv_at hl 0 rfl) ?_
    refine gf_X2_9 hB hP 0 rfl rfl dX2_append_11 ?_
    refine lv_aload_n hx hb dX2_append_14 rfl (lv_at hl 0 rfl) ?_
    refine gf_X2_15 hB hP 0 rfl rfl dX2_append_15 ?_
    refine lv_iload_n hx hb dX2_append_18 rfl (lv_at hl 1 rfl) ?_
    refine lv_i2c hx hb dX2_append_19 rfl ?_
    obtain ⟨h_in, hf⟩ := hf
    refine va_cast hx hb hB.K hP hD hS 1 1 rfl rfl h_in dX2_append_20 (fun H locs hP hD hS => ?_)
    have hP : va_P E.1 vwCl (w_X2_append E a_t a_bytes v_length (upd v_bytes v_length.toNatClampNeg (vp_nar .char ((x1.toUInt32 % 65536).toInt32)))) H := hP
    have hD : va_D A (w_X2_append E a_t a_bytes v_length (upd v_bytes v_length.toNatClampNeg (vp_nar .char ((x1.toUInt32 % 65536).toInt32)))) := hD
    refine lv_aload_n hx hb dX2_append_21 rfl (lv_at hl 0 rfl) ?_
    refine lv_dup hx hb dX2_append_22 rfl ?_
    refine gf_X2_15 hB hP 0 rfl rfl dX2_append_23 ?_
    refine lv_iconst hx hb dX2_append_26 kc_i_1 ?_
    refine lv_iadd hx hb dX2_append_27 ?_
    refine pf_X2_15 hB hP hD hS 0 rfl (Nat.le_of_ble_eq_true rfl) dX2_append_28 (w_X2_append E a_t a_bytes (v_length + 1) (upd v_bytes v_length.toNatClampNeg (vp_nar .char ((x1.toUInt32 % 65536).toInt32)))) rfl (fun H locs hP hD hS => ?_)
    exact hRet (upd v_bytes v_length.toNatClampNeg (vp_nar .char ((x1.toUInt32 % 65536).toInt32)), v_length + 1) 31 ls H locs dX2_append_31 hf hP hS
theorem c_X2_append (l : Launch) (E : mx_E) (a_t : Nat) (a_bytes : Nat) (v_length : Int32) (v_bytes : (Nat → Int32)) (sz : Nat) (x1 : Int32) (post : (Nat → Int32) → Int32 → Prop) (hf : f_X2_append v_bytes v_length x1 post) : Met l yX2_append (Cond.code yX2_append cX2_append 2 none :: mx_WS) rm_X2_append (va_Pc [.ref a_t, .int x1] (mx_Pw E (w_X2_append E a_t a_bytes v_length v_bytes) sz)) (va_Qv (fun (u : (Nat → Int32) × Int32) => post u.1 u.2) (fun u t => va_P E.1 vwCl (w_X2_append E a_t a_bytes u.2 u.1) t.heap) (va_A (w_X2_append E a_t a_bytes v_length v_bytes) sz)) 0 0 (va_A (w_X2_append E a_t a_bytes v_length v_bytes) sz) :=
  mx_metWv (by decide) rfl rfl (fun hB hP hD hA hRet ls hl => b_X2_append E a_t a_bytes v_length v_bytes x1 post hB hP hD hA hRet hf ls hl)
def rm_X3_startAnew : Room := { frames := 0, cells := 0, slots := 0, locals := 0 }
set_option maxHeartbeats 4000000 in
set_option maxRecDepth 100000 in
theorem b_X3_startAnew {p : Program} {l : Launch} {e : Env} {s : State} {m : MethodId} {args : Array Value} {below : List Frame} {meth : Method} {c : Code} {Q : State → Prop} {A : Nat → Prop} (E : mx_E) (a_t : Nat) (a_order : Nat) (v_many : Int32) (v_day : Int32)  (post : Int32 → Int32 → Prop) (hB : mx_B p m c cX3_startAnew 1 s args RX3 E) (hP : va_P E.1 vwCl (w_X3_startAnew E a_t a_order v_many v_day) s.heap) (hD : va_D A (w_X3_startAnew E a_t a_order v_many v_day)) (hA : ∀ q : Nat, s.heap.size ≤ q → A q) (hRet : ∀ (u : Int32 × Int32) (pc : Nat) (ls : Array Slot) (H : Heap) (locs : List Loc), decode cX3_startAnew pc = .ok (.return_, 1) → post u.1 u.2 → va_P E.1 vwCl (w_X3_startAnew E a_t a_order u.1 u.2) H → va_S A s.heap H locs → W p l e rm_X3_startAnew s m args below meth c H locs 0 0 Q (F0 m pc ls [])) (hf : f_X3_startAnew v_many v_day post) (ls : Array Slot) (hl : lv_has ls 1 [(0, .ref a_t)]) : W p l e rm_X3_startAnew s m args below meth c s.heap [] 0 0 Q (F0 m 0 ls []) := by
  have hx := hB.x
  have hb := hB.b
  have hS : va_S A s.heap s.heap [] := va_S.rf
  obtain ⟨H, locs, eH, eL⟩ : ∃ (H : Heap) (locs : List Loc), H = s.heap ∧ locs = [] := ⟨_, _, rfl, rfl⟩
  rw [← eH] at hP
  have hS : va_S A s.heap H locs := by rw [eH, eL]; exact hS
  show W p l e rm_X3_startAnew s m args below meth c s.heap [] 0 0 Q (F0 m 0 ls [])
  rw [← eH, ← eL]
  refine lv_aload_n hx hb dX3_startAnew_0 rfl (lv_at hl 0 rfl) ?_
  refine lv_iconst hx hb dX3_startAnew_1 kc_i_0 ?_
  refine pf_X3_15 hB hP hD hS 0 rfl (Nat.le_of_ble_eq_true rfl) dX3_startAnew_2 (w_X3_startAnew E a_t a_order 0 v_day) rfl (fun H locs hP hD hS => ?_)
  refine lv_aload_n hx hb dX3_startAnew_5 rfl (lv_at hl 0 rfl) ?_
  refine lv_iconst hx hb dX3_startAnew_6 kc_i_0 ?_
  refine pf_X3_19 hB hP hD hS 0 rfl (Nat.le_of_ble_eq_true rfl) dX3_startAnew_7 (w_X3_startAnew E a_t a_order 0 0) rfl (fun H locs hP hD hS => ?_)
  exact hRet (0, 0) 10 ls H locs dX3_startAnew_10 hf hP hS
theorem c_X3_startAnew (l : Launch) (E : mx_E) (a_t : Nat) (a_order : Nat) (v_many : Int32) (v_day : Int32) (sz : Nat)  (post : Int32 → Int32 → Prop) (hf : f_X3_startAnew v_many v_day post) : Met l yX3_startAnew (Cond.code yX3_startAnew cX3_startAnew 1 none :: mx_WS) rm_X3_startAnew (va_Pc [.ref a_t] (mx_Pw E (w_X3_startAnew E a_t a_order v_many v_day) sz)) (va_Qv (fun (u : Int32 × Int32) => post u.1 u.2) (fun u t => va_P E.1 vwCl (w_X3_startAnew E a_t a_order u.1 u.2) t.heap) (va_A (w_X3_startAnew E a_t a_order v_many v_day) sz)) 0 0 (va_A (w_X3_startAnew E a_t a_order v_many v_day) sz) :=
  mx_metWv (by decide) rfl rfl (fun hB hP hD hA hRet ls hl => b_X3_startAnew E a_t a_order v_many v_day  post hB hP hD hA hRet hf ls hl)
def rm_X3_copyFrom : Room := { frames := 1, cells := 0, slots := 0, locals := 40 }
set_option maxHeartbeats 4000000 in
set_option maxRecDepth 100000 in
theorem b_X3_copyFrom {p : Program} {l : Launch} {e : Env} {s : State} {m : MethodId} {args : Array Value} {below : List Frame} {meth : Method} {c : Code} {Q : State → Prop} {A : Nat → Prop} (E : mx_E) (a_t : Nat) (a_order : Nat) (a_o : Nat) (a_o_order : Nat) (v_many : Int32) (v_day : Int32) (v_o_many : Int32) (v_o_day : Int32) (v_o_order : (Nat → Int32)) (v_order : (Nat → Int32))  (post : Int32 → Int32 → (Nat → Int32) → Prop) (hB : mx_B p m c cX3_copyFrom 2 s args RX3 E) (hP : va_P E.1 vwCl (w_X3_copyFrom E a_t a_order a_o a_o_order v_many v_day v_o_many v_o_day v_o_order v_order) s.heap) (hD : va_D A (w_X3_copyFrom E a_t a_order a_o a_o_order v_many v_day v_o_many v_o_day v_o_order v_order)) (hA : ∀ q : Nat, s.heap.size ≤ q → A q) (hRet : ∀ (u : Int32 × Int32 × (Nat → Int32)) (pc : Nat) (ls : Array Slot) (H : Heap) (locs : List Loc), decode cX3_copyFrom pc = .ok (.return_, 1) → post u.1 u.2.1 u.2.2 → va_P E.1 vwCl (w_X3_copyFrom E a_t a_order a_o a_o_order u.1 u.2.1 v_o_many v_o_day v_o_order u.2.2) H → va_S A s.heap H locs → W p l e rm_X3_copyFrom s m args below meth c H locs 0 0 Q (F0 m pc ls [])) (hf : f_X3_copyFrom v_o_many v_o_day v_o_order v_many v_day v_order post) (ls : Array Slot) (hl : lv_has ls 2 [(0, .ref a_t), (1, .ref a_o)]) : W p l e rm_X3_copyFrom s m args below meth c s.heap [] 0 0 Q (F0 m 0 ls []) := by
  have hx := hB.x
  have hb := hB.b
  have hS : va_S A s.heap s.heap [] := va_S.rf
  obtain ⟨H, locs, eH, eL⟩ : ∃ (H : Heap) (locs : List Loc), H = s.heap ∧ locs = [] := ⟨_, _, rfl, rfl⟩
  rw [← eH] at hP
  have hS : va_S A s.heap H locs := by rw [eH, eL]; exact hS
  show W p l e rm_X3_copyFrom s m args below meth c s.heap [] 0 0 Q (F0 m 0 ls [])
  rw [← eH, ← eL]
  refine lv_aload_n hx hb dX3_copyFrom_0 rfl (lv_at hl 0 rfl) ?_
  refine lv_aload_n hx hb dX3_copyFrom_1 rfl (lv_at hl 1 rfl) ?_
  refine gf_X3_15 hB hP 1 rfl rfl dX3_copyFrom_2 ?_
  refine pf_X3_15 hB hP hD hS 0 rfl (Nat.le_of_ble_eq_true rfl) dX3_copyFrom_5 (w_X3_copyFrom E a_t a_order a_o a_o_order v_o_many v_day v_o_many v_o_day v_o_order v_order) rfl (fun H locs hP hD hS => ?_)
  refine lv_aload_n hx hb dX3_copyFrom_8 rfl (lv_at hl 0 rfl) ?_
  refine lv_aload_n hx hb dX3_copyFrom_9 rfl (lv_at hl 1 rfl) ?_
  refine gf_X3_19 hB hP 1 rfl rfl dX3_copyFrom_10 ?_
  refine pf_X3_19 hB hP hD hS 0 rfl (Nat.le_of_ble_eq_true rfl) dX3_copyFrom_13 (w_X3_copyFrom E a_t a_order a_o a_o_order v_o_many v_o_day v_o_many v_o_day v_o_order v_order) rfl (fun H locs hP hD hS => ?_)
  refine lv_aload_n hx hb dX3_copyFrom_16 rfl (lv_at hl 1 rfl) ?_
  refine gf_X3_9 hB hP 1 rfl rfl dX3_copyFrom_17 ?_
  refine lv_iconst hx hb dX3_copyFrom_20 kc_i_0 ?_
  refine lv_aload_n hx hb dX3_copyFrom_21 rfl (lv_at hl 0 rfl) ?_
  refine gf_X3_9 hB hP 0 rfl rfl dX3_copyFrom_22 ?_
  refine lv_iconst hx hb dX3_copyFrom_25 kc_i_0 ?_
  refine lv_bipush hx hb dX3_copyFrom_26 kc_b_8 ?_
  refine va_copyi (ty := .int) hx hb (by rw [hB.l, hl.1]) hB.o (hB.w wml_X3_22) (hB.w wnat_ac) (hB.w wst_ac) (hB.w win_sys) hB.K hP hD hS 2 3 0 0 rfl rfl rfl rfl rfl (by decide) (by decide) (by decide) (by decide) (by decide) (fun _ _ => rfl) (by decide) (Nat.le_of_ble_eq_true rfl) dX3_copyFrom_28 (fun H locs hP hD hS => ?_)
  have hP : va_P E.1 vwCl (w_X3_copyFrom E a_t a_order a_o a_o_order v_o_many v_o_day v_o_many v_o_day v_o_order (va_cpy v_o_order v_order (0 : Int32).toNatClampNeg (0 : Int32).toNatClampNeg (8 : Int32).toNatClampNeg)) H := hP
  have hD : va_D A (w_X3_copyFrom E a_t a_order a_o a_o_order v_o_many v_o_day v_o_many v_o_day v_o_order (va_cpy v_o_order v_order (0 : Int32).toNatClampNeg (0 : Int32).toNatClampNeg (8 : Int32).toNatClampNeg)) := hD
  exact hRet (v_o_many, v_o_day, va_cpy v_o_order v_order (0 : Int32).toNatClampNeg (0 : Int32).toNatClampNeg (8 : Int32).toNatClampNeg) 31 ls H locs dX3_copyFrom_31 hf hP hS
theorem c_X3_copyFrom (l : Launch) (E : mx_E) (a_t : Nat) (a_order : Nat) (a_o : Nat) (a_o_order : Nat) (v_many : Int32) (v_day : Int32) (v_o_many : Int32) (v_o_day : Int32) (v_o_order : (Nat → Int32)) (v_order : (Nat → Int32)) (sz : Nat)  (post : Int32 → Int32 → (Nat → Int32) → Prop) (hf : f_X3_copyFrom v_o_many v_o_day v_o_order v_many v_day v_order post) : Met l yX3_copyFrom (Cond.code yX3_copyFrom cX3_copyFrom 2 none :: mx_WS) rm_X3_copyFrom (va_Pc [.ref a_t, .ref a_o] (mx_Pw E (w_X3_copyFrom E a_t a_order a_o a_o_order v_many v_day v_o_many v_o_day v_o_order v_order) sz)) (va_Qv (fun (u : Int32 × Int32 × (Nat → Int32)) => post u.1 u.2.1 u.2.2) (fun u t => va_P E.1 vwCl (w_X3_copyFrom E a_t a_order a_o a_o_order u.1 u.2.1 v_o_many v_o_day v_o_order u.2.2) t.heap) (va_A (w_X3_copyFrom E a_t a_order a_o a_o_order v_many v_day v_o_many v_o_day v_o_order v_order) sz)) 0 0 (va_A (w_X3_copyFrom E a_t a_order a_o a_o_order v_many v_day v_o_many v_o_day v_o_order v_order) sz) :=
  mx_metWv (by decide) rfl rfl (fun hB hP hD hA hRet ls hl => b_X3_copyFrom E a_t a_order a_o a_o_order v_many v_day v_o_many v_o_day v_o_order v_order  post hB hP hD hA hRet hf ls hl)
def rm_X3_setBelow : Room := { frames := 0, cells := 0, slots := 0, locals := 0 }
set_option maxHeartbeats 4000000 in
set_option maxRecDepth 100000 in
theorem b_X3_setBelow {p : Program} {l : Launch} {e : Env} {s : State} {m : MethodId} {args : Array Value} {below : List Frame} {meth : Method} {c : Code} {Q : State → Prop} {A : Nat → Prop} (E : mx_E) (a_t : Nat) (a_order : Nat) (v_many : Int32) (v_day : Int32) (v_order : (Nat → Int32)) (x1 : Int32) (post : (Nat → Int32) → Int32 → Prop) (hB : mx_B p m c cX3_setBelow 2 s args RX3 E) (hP : va_P E.1 vwCl (w_X3_setBelow E a_t a_order v_many v_day v_order) s.heap) (hD : va_D A (w_X3_setBelow E a_t a_order v_many v_day v_order)) (hA : ∀ q : Nat, s.heap.size ≤ q → A q) (hRet : ∀ (u : (Nat → Int32) × Int32) (pc : Nat) (ls : Array Slot) (H : Heap) (locs : List Loc), decode cX3_setBelow pc = .ok (.return_, 1) → post u.1 u.2 → va_P E.1 vwCl (w_X3_setBelow E a_t a_order u.2 v_day u.1) H → va_S A s.heap H locs → W p l e rm_X3_setBelow s m args below meth c H locs 0 0 Q (F0 m pc ls [])) (hf : f_X3_setBelow v_order v_many x1 post) (ls : Array Slot) (hl : lv_has ls 2 [(0, .ref a_t), (1, .int x1)]) : W p l e rm_X3_setBelow s m args below meth c s.heap [] 0 0 Q (F0 m 0 ls []) := by
  have hx := hB.x
  have hb := hB.b
  have hS : va_S A s.heap s.heap [] := va_S.rf
  obtain ⟨H, locs, eH, eL⟩ : ∃ (H : Heap) (locs : List Loc), H = s.heap ∧ locs = [] := ⟨_, _, rfl, rfl⟩
  rw [← eH] at hP
  have hS : va_S A s.heap H locs := by rw [eH, eL]; exact hS
  show W p l e rm_X3_setBelow s m args below meth c s.heap [] 0 0 Q (F0 m 0 ls [])
  rw [← eH, ← eL]
  refine lv_aload_n hx hb dX3_setBelow_0 rfl (lv_at hl 0 rfl) ?_
  refine gf_X3_15 hB hP 0 rfl rfl dX3_setBelow_1 ?_
  refine lv_bipush hx hb dX3_setBelow_4 kc_b_8 ?_
  refine lv_icmp_ge (tgt := 29) hx hb dX3_setBelow_6 (by decide) (fun c6 => ?_) (fun c6 => ?_)
  · have hf := hf.1 c6
    exact hRet (v_order, v_many) 29 ls H locs dX3_setBelow_29 hf hP hS
  · have hf := hf.2 c6
    refine lv_aload_n hx hb dX3_setBelow_9 rfl (lv_at hl 0 rfl) ?_
    refine gf_X3_9 hB hP 0 rfl rfl dX3_setBelow_10 ?_
    refine lv_aload_n hx hb dX3_setBelow_13 rfl (lv_at hl 0 rfl) ?_
    refine gf_X3_15 hB hP 0 rfl rfl dX3_setBelow_14 ?_
    refine lv_iload_n hx hb dX3_setBelow_17 rfl (lv_at hl 1 rfl) ?_
    obtain ⟨h_in, hf⟩ := hf
    refine va_iast hx hb hB.K hP hD hS 1 0 rfl rfl h_in dX3_setBelow_18 (fun H locs hP hD hS => ?_)
    have hP : va_P E.1 vwCl (w_X3_setBelow E a_t a_order v_many v_day (upd v_order v_many.toNatClampNeg x1)) H := hP
    have hD : va_D A (w_X3_setBelow E a_t a_order v_many v_day (upd v_order v_many.toNatClampNeg x1)) := hD
    refine lv_aload_n hx hb dX3_setBelow_19 rfl (lv_at hl 0 rfl) ?_
    refine lv_dup hx hb dX3_setBelow_20 rfl ?_
    refine gf_X3_15 hB hP 0 rfl rfl dX3_setBelow_21 ?_
    refine lv_iconst hx hb dX3_setBelow_24 kc_i_1 ?_
    refine lv_iadd hx hb dX3_setBelow_25 ?_
    refine pf_X3_15 hB hP hD hS 0 rfl (Nat.le_of_ble_eq_true rfl) dX3_setBelow_26 (w_X3_setBelow E a_t a_order (v_many + 1) v_day (upd v_order v_many.toNatClampNeg x1)) rfl (fun H locs hP hD hS => ?_)
    exact hRet (upd v_order v_many.toNatClampNeg x1, v_many + 1) 29 ls H locs dX3_setBelow_29 hf hP hS
theorem c_X3_setBelow (l : Launch) (E : mx_E) (a_t : Nat) (a_order : Nat) (v_many : Int32) (v_day : Int32) (v_order : (Nat → Int32)) (sz : Nat) (x1 : Int32) (post : (Nat → Int32) → Int32 → Prop) (hf : f_X3_setBelow v_order v_many x1 post) : Met l yX3_setBelow (Cond.code yX3_setBelow cX3_setBelow 2 none :: mx_WS) rm_X3_setBelow (va_Pc [.ref a_t, .int x1] (mx_Pw E (w_X3_setBelow E a_t a_order v_many v_day v_order) sz)) (va_Qv (fun (u : (Nat → Int32) × Int32) => post u.1 u.2) (fun u t => va_P E.1 vwCl (w_X3_setBelow E a_t a_order u.2 v_day u.1) t.heap) (va_A (w_X3_setBelow E a_t a_order v_many v_day v_order) sz)) 0 0 (va_A (w_X3_setBelow E a_t a_order v_many v_day v_order) sz) :=
  mx_metWv (by decide) rfl rfl (fun hB hP hD hA hRet ls hl => b_X3_setBelow E a_t a_order v_many v_day v_order x1 post hB hP hD hA hRet hf ls hl)
def rm_X3_firstOnes : Room := { frames := 0, cells := 0, slots := 0, locals := 0 }
set_option maxHeartbeats 4000000 in
set_option maxRecDepth 100000 in
theorem b_X3_firstOnes {p : Program} {l : Launch} {e : Env} {s : State} {m : MethodId} {args : Array Value} {below : List Frame} {meth : Method} {c : Code} {Q : State → Prop} (E : mx_E) (a_t : Nat) (a_order : Nat) (v_many : Int32) (v_day : Int32) (v_order : (Nat → Int32)) (x1 : Int32) (post : Int32 → Prop) (hB : mx_B p m c cX3_firstOnes 4 s args RX3 E) (hP : va_P E.1 vwCl (w_X3_firstOnes E a_t a_order v_many v_day v_order) s.heap) (hRet : ∀ (v : Int32) (pc : Nat) (ls : Array Slot), decode cX3_firstOnes pc = .ok (.ireturn, 1) → post v → W p l e rm_X3_firstOnes s m args below meth c s.heap [] 0 0 Q (F0 m pc ls [.int v])) (hf : f_X3_firstOnes v_many v_order x1 post) (ls : Array Slot) (hl : lv_has ls 4 [(0, .ref a_t), (1, .int x1)]) : W p l e rm_X3_firstOnes s m args below meth c s.heap [] 0 0 Q (F0 m 0 ls []) := by
  have hx := hB.x
  have hb := hB.b
  have L_4 : ∀ (g4_x1 : Int32) (n : Nat) (j4_x2 : Int32) (j4_x3 : Int32) (ls : Array Slot), mx_l2 (f_X3_firstOnes_4 v_many v_order post g4_x1) n j4_x2 j4_x3 → lv_has ls 4 [(0, .ref a_t), (1, .int g4_x1), (2, .int j4_x2), (3, .int j4_x3)] → W p l e rm_X3_firstOnes s m args below meth c s.heap [] 0 0 Q (F0 m 4 ls []) := by
    intro g4_x1 n_4
    induction n_4 with
    | zero =>
      intro j4_x2 j4_x3 ls hf hl
      exact False.elim hf
    | succ n_4 ih_4 =>
      intro j4_x2 j4_x3 ls hf hl
      replace hf : f_X3_firstOnes_4 v_many v_order post g4_x1 (mx_l2 (f_X3_firstOnes_4 v_many v_order post g4_x1) n_4) j4_x2 j4_x3 := hf
      refine lv_iload_n hx hb dX3_firstOnes_4 rfl (lv_at hl 3 rfl) ?_
      refine lv_iload_n hx hb dX3_firstOnes_5 rfl (lv_at hl 1 rfl) ?_
      refine lv_icmp_ge (tgt := 34) hx hb dX3_firstOnes_6 (by decide) (fun c6 => ?_) (fun c6 => ?_)
      · have hf := hf.1 c6
        refine lv_iload_n hx hb dX3_firstOnes_34 rfl (lv_at hl 2 rfl) ?_
        exact hRet j4_x2 35 ls dX3_firstOnes_35 hf
      · have hf := hf.2 c6
        refine lv_iload_n hx hb dX3_firstOnes_9 rfl (lv_at hl 3 rfl) ?_
        refine lv_aload_n hx hb dX3_firstOnes_10 rfl (lv_at hl 0 rfl) ?_
        refine gf_X3_15 hB hP 0 rfl rfl dX3_firstOnes_11 ?_
        refine lv_icmp_ge (tgt := 34) hx hb dX3_firstOnes_14 (by decide) (fun c14 => ?_) (fun c14 => ?_)
        · have hf := hf.1 c14
          refine lv_iload_n hx hb dX3_firstOnes_34 rfl (lv_at hl 2 rfl) ?_
          exact hRet j4_x2 35 ls dX3_firstOnes_35 hf
        · have hf := hf.2 c14
          refine lv_iload_n hx hb dX3_firstOnes_17 rfl (lv_at hl 2 rfl) ?_
          refine lv_iconst hx hb dX3_firstOnes_18 kc_i_1 ?_
          refine lv_aload_n hx hb dX3_firstOnes_19 rfl (lv_at hl 0 rfl) ?_
          refine gf_X3_9 hB hP 0 rfl rfl dX3_firstOnes_20 ?_
          refine lv_iload_n hx hb dX3_firstOnes_23 rfl (lv_at hl 3 rfl) ?_
          obtain ⟨h_in, hf⟩ := hf
          refine va_iald hx hb hB.K hP 1 0 rfl rfl h_in dX3_firstOnes_24 ?_
          refine lv_ishl hx hb dX3_firstOnes_25 ?_
          refine lv_ior hx hb dX3_firstOnes_26 ?_
          refine lv_istore_n (lv' := [(2, .int (j4_x2 ||| (1 <<< ((v_order j4_x3.toNatClampNeg) &&& 31)))), (0, .ref a_t), (1, .int g4_x1), (3, .int j4_x3)]) hx hb dX3_firstOnes_27 rfl hl (by decide) rfl (fun ls hl => ?_)
          refine lv_iinc (v := j4_x3 + 1) (lv' := [(3, .int (j4_x3 + 1)), (2, .int (j4_x2 ||| (1 <<< ((v_order j4_x3.toNatClampNeg) &&& 31)))), (0, .ref a_t), (1, .int g4_x1)]) hx hb dX3_firstOnes_28 hl (k := 3) rfl (by rw [kc_i_1]) (by decide) rfl (fun ls hl => ?_)
          refine lv_goto (tgt := 4) hx hb dX3_firstOnes_31 (by decide) ?_
          exact ih_4 (j4_x2 ||| (1 <<< ((v_order j4_x3.toNatClampNeg) &&& 31))) (j4_x3 + 1) ls hf (lv_sub hl [2, 3, 1, 0] rfl)
  refine lv_iconst hx hb dX3_firstOnes_0 kc_i_0 ?_
  refine lv_istore_n (lv' := [(2, .int 0), (0, .ref a_t), (1, .int x1)]) hx hb dX3_firstOnes_1 rfl hl (by decide) rfl (fun ls hl => ?_)
  refine lv_iconst hx hb dX3_firstOnes_2 kc_i_0 ?_
  refine lv_istore_n (lv' := [(3, .int 0), (2, .int 0), (0, .ref a_t), (1, .int x1)]) hx hb dX3_firstOnes_3 rfl hl (by decide) rfl (fun ls hl => ?_)
  obtain ⟨n9, hf⟩ := hf
  exact L_4 x1 n9 0 0 ls hf (lv_sub hl [2, 3, 1, 0] rfl)
theorem c_X3_firstOnes (l : Launch) (E : mx_E) (a_t : Nat) (a_order : Nat) (v_many : Int32) (v_day : Int32) (v_order : (Nat → Int32)) (x1 : Int32) (post : Int32 → Prop) (hf : f_X3_firstOnes v_many v_order x1 post) : Met l yX3_firstOnes (Cond.code yX3_firstOnes cX3_firstOnes 4 (some .int) :: mx_WS) rm_X3_firstOnes (va_Pc [.ref a_t, .int x1] (mx_Pp E (w_X3_firstOnes E a_t a_order v_many v_day v_order))) (vp_Si post) 0 0 (fun _ => False) :=
  mx_metPi (by decide) rfl rfl (fun hB hP hRet ls hl => b_X3_firstOnes E a_t a_order v_many v_day v_order x1 post hB hP hRet hf ls hl)
def rm_X3_set : Room := { frames := 1, cells := 0, slots := 0, locals := 23 }
set_option maxHeartbeats 4000000 in
set_option maxRecDepth 100000 in
theorem b_X3_set {p : Program} {l : Launch} {e : Env} {s : State} {m : MethodId} {args : Array Value} {below : List Frame} {meth : Method} {c : Code} {Q : State → Prop} (E : mx_E) (a_t : Nat) (a_order : Nat) (v_many : Int32) (v_day : Int32) (v_order : (Nat → Int32))  (post : Int32 → Prop) (hB : mx_B p m c cX3_set 1 s args RX3 E) (hP : va_P E.1 vwCl (w_X3_set E a_t a_order v_many v_day v_order) s.heap) (hRet : ∀ (v : Int32) (pc : Nat) (ls : Array Slot), decode cX3_set pc = .ok (.ireturn, 1) → post v → W p l e rm_X3_set s m args below meth c s.heap [] 0 0 Q (F0 m pc ls [.int v])) (hf : f_X3_set v_many v_order post) (ls : Array Slot) (hl : lv_has ls 1 [(0, .ref a_t)]) : W p l e rm_X3_set s m args below meth c s.heap [] 0 0 Q (F0 m 0 ls []) := by
  have hx := hB.x
  have hb := hB.b
  refine lv_aload_n hx hb dX3_set_0 rfl (lv_at hl 0 rfl) ?_
  refine lv_aload_n hx hb dX3_set_1 rfl (lv_at hl 0 rfl) ?_
  refine gf_X3_15 hB hP 0 rfl rfl dX3_set_2 ?_
  refine mx_gi (mx_runV (As := [.int v_many]) (rest := []) hB (c_X3_firstOnes l E a_t a_order v_many v_day v_order v_many _ hf) sB_X3_firstOnes sV_X3_firstOnes wml_X3_28 rfl (mx_ppV hB hP [0, 1] rfl 3 rfl rfl rfl) hl.1 rfl (Nat.le_of_ble_eq_true rfl) dX3_set_5 ⟨Nat.zero_le _, Nat.zero_le _⟩) (fun r1 hf => ?_)
  exact hRet r1 8 ls dX3_set_8 hf
theorem c_X3_set (l : Launch) (E : mx_E) (a_t : Nat) (a_order : Nat) (v_many : Int32) (v_day : Int32) (v_order : (Nat → Int32))  (post : Int32 → Prop) (hf : f_X3_set v_many v_order post) : Met l yX3_set (Cond.code yX3_set cX3_set 1 (some .int) :: mx_WS) rm_X3_set (va_Pc [.ref a_t] (mx_Pp E (w_X3_set E a_t a_order v_many v_day v_order))) (vp_Si post) 0 0 (fun _ => False) :=
  mx_metPi (by decide) rfl rfl (fun hB hP hRet ls hl => b_X3_set E a_t a_order v_many v_day v_order  post hB hP hRet hf ls hl)
def rm_X3_placeOf : Room := { frames := 0, cells := 0, slots := 0, locals := 0 }
set_option maxHeartbeats 4000000 in
set_option maxRecDepth 100000 in
theorem b_X3_placeOf {p : Program} {l : Launch} {e : Env} {s : State} {m : MethodId} {args : Array Value} {below : List Frame} {meth : Method} {c : Code} {Q : State → Prop} (E : mx_E) (a_t : Nat) (a_order : Nat) (v_many : Int32) (v_day : Int32) (v_order : (Nat → Int32)) (x1 : Int32) (post : Int32 → Prop) (hB : mx_B p m c cX3_placeOf 3 s args RX3 E) (hP : va_P E.1 vwCl (w_X3_placeOf E a_t a_order v_many v_day v_order) s.heap) (hRet : ∀ (v : Int32) (pc : Nat) (ls : Array Slot), decode cX3_placeOf pc = .ok (.ireturn, 1) → post v → W p l e rm_X3_placeOf s m args below meth c s.heap [] 0 0 Q (F0 m pc ls [.int v])) (hf : f_X3_placeOf v_many v_order x1 post) (ls : Array Slot) (hl : lv_has ls 3 [(0, .ref a_t), (1, .int x1)]) : W p l e rm_X3_placeOf s m args below meth c s.heap [] 0 0 Q (F0 m 0 ls []) := by
  have hx := hB.x
  have hb := hB.b
  have L_2 : ∀ (g2_x1 : Int32) (n : Nat) (j2_x2 : Int32) (ls : Array Slot), mx_l1 (f_X3_placeOf_2 v_many v_order post g2_x1) n j2_x2 → lv_has ls 3 [(0, .ref a_t), (1, .int g2_x1), (2, .int j2_x2)] → W p l e rm_X3_placeOf s m args below meth c s.heap [] 0 0 Q (F0 m 2 ls []) := by
    intro g2_x1 n_2
    induction n_2 with
    | zero =>
      intro j2_x2 ls hf hl
      exact False.elim hf
    | succ n_2 ih_2 =>
      intro j2_x2 ls hf hl
      replace hf : f_X3_placeOf_2 v_many v_order post g2_x1 (mx_l1 (f_X3_placeOf_2 v_many v_order post g2_x1) n_2) j2_x2 := hf
      refine lv_iload_n hx hb dX3_placeOf_2 rfl (lv_at hl 2 rfl) ?_
      refine lv_aload_n hx hb dX3_placeOf_3 rfl (lv_at hl 0 rfl) ?_
      refine gf_X3_15 hB hP 0 rfl rfl dX3_placeOf_4 ?_
      refine lv_icmp_ge (tgt := 28) hx hb dX3_placeOf_7 (by decide) (fun c7 => ?_) (fun c7 => ?_)
      · have hf := hf.1 c7
        refine lv_iconst hx hb dX3_placeOf_28 kc_i_m1 ?_
        exact hRet (-1) 29 ls dX3_placeOf_29 hf
      · have hf := hf.2 c7
        refine lv_aload_n hx hb dX3_placeOf_10 rfl (lv_at hl 0 rfl) ?_
        refine gf_X3_9 hB hP 0 rfl rfl dX3_placeOf_11 ?_
        refine lv_iload_n hx hb dX3_placeOf_14 rfl (lv_at hl 2 rfl) ?_
        obtain ⟨h_in, hf⟩ := hf
        refine va_iald hx hb hB.K hP 1 0 rfl rfl h_in dX3_placeOf_15 ?_
        refine lv_iload_n hx hb dX3_placeOf_16 rfl (lv_at hl 1 rfl) ?_
        refine lv_icmp_ne (tgt := 22) hx hb dX3_placeOf_17 (by decide) (fun c17 => ?_) (fun c17 => ?_)
        · have hf := hf.1 c17
          refine lv_iinc (v := j2_x2 + 1) (lv' := [(2, .int (j2_x2 + 1)), (0, .ref a_t), (1, .int g2_x1)]) hx hb dX3_placeOf_22 hl (k := 2) rfl (by rw [kc_i_1]) (by decide) rfl (fun ls hl => ?_)
          refine lv_goto (tgt := 2) hx hb dX3_placeOf_25 (by decide) ?_
          exact ih_2 (j2_x2 + 1) ls hf (lv_sub hl [1, 2, 0] rfl)
        · have hf := hf.2 c17
          refine lv_iload_n hx hb dX3_placeOf_20 rfl (lv_at hl 2 rfl) ?_
          exact hRet j2_x2 21 ls dX3_placeOf_21 hf
  refine lv_iconst hx hb dX3_placeOf_0 kc_i_0 ?_
  refine lv_istore_n (lv' := [(2, .int 0), (0, .ref a_t), (1, .int x1)]) hx hb dX3_placeOf_1 rfl hl (by decide) rfl (fun ls hl => ?_)
  obtain ⟨n9, hf⟩ := hf
  exact L_2 x1 n9 0 ls hf (lv_sub hl [1, 2, 0] rfl)
theorem c_X3_placeOf (l : Launch) (E : mx_E) (a_t : Nat) (a_order : Nat) (v_many : Int32) (v_day : Int32) (v_order : (Nat → Int32)) (x1 : Int32) (post : Int32 → Prop) (hf : f_X3_placeOf v_many v_order x1 post) : Met l yX3_placeOf (Cond.code yX3_placeOf cX3_placeOf 3 (some .int) :: mx_WS) rm_X3_placeOf (va_Pc [.ref a_t, .int x1] (mx_Pp E (w_X3_placeOf E a_t a_order v_many v_day v_order))) (vp_Si post) 0 0 (fun _ => False) :=
  mx_metPi (by decide) rfl rfl (fun hB hP hRet ls hl => b_X3_placeOf E a_t a_order v_many v_day v_order x1 post hB hP hRet hf ls hl)
