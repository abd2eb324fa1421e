/-! the JDK's methods on a String constant -/
def rm_J0 : Room := { frames := 0, cells := 0, slots := 0, locals := 0 }
def rm_J0_length_8abf5 : Room := { frames := 1, cells := 0, slots := 0, locals := 20 }
def rm_J0_checkIndex : Room := { frames := 1, cells := 0, slots := 0, locals := 22 }
def rm_J1_charAt : Room := { frames := 2, cells := 0, slots := 0, locals := 43 }
def rm_J0_charAt_5068e : Room := { frames := 3, cells := 0, slots := 0, locals := 64 }
set_option maxHeartbeats 4000000 in
theorem c_J0_coder (l : Launch) (E : mx_E) (a : Nat) (wd : List Int32) : Met l yJ0_coder_7d493 (Cond.code yJ0_coder_7d493 cJ0_coder_7d493 1 (some .byte) :: mx_WS) rm_J0 (va_Pc [.ref a] (mx_Px (mx_Str a wd) E)) (vp_Si (fun r => r = 0)) 0 0 (fun _ => False) := by
  refine mx_metX (by decide) rfl rfl (fun {p e s m args below meth c Q} hB hX hRet ls hl => ?_)
  have hx := hB.x
  have hb := hB.b
  have hl : lv_has ls 1 [(0, .ref a)] := hl
  obtain ⟨⟨v, h1, h2, h3, h4⟩, hj1, hj2⟩ := hX
  refine va_gets hx hb hj1 va_S.rf hB.o (hB.w wfl_J0_38) (fun _ h => h) dJ0_coder_7d493_0 ?_
  refine lv_if_eq (tgt := 13) hx hb dJ0_coder_7d493_3 (by decide) (fun c1 => absurd c1 (by decide)) (fun _ => ?_)
  refine lv_aload_n hx hb dJ0_coder_7d493_6 rfl (lv_at hl 0 rfl) ?_
  refine vk_getf hx hb h2 va_S.rf hB.o (hB.w wfl_J0_15) (fun _ h => h) dJ0_coder_7d493_7 ?_
  refine lv_goto (tgt := 14) hx hb dJ0_coder_7d493_10 (by decide) ?_
  exact hRet 0 14 ls dJ0_coder_7d493_14 rfl rfl
set_option maxHeartbeats 4000000 in
theorem c_J0_isLatin1 (l : Launch) (E : mx_E) (a : Nat) (wd : List Int32) : Met l yJ0_isLatin1_aae02 (Cond.code yJ0_isLatin1_aae02 cJ0_isLatin1_aae02 1 (some .boolean) :: mx_WS) rm_J0 (va_Pc [.ref a] (mx_Px (mx_Str a wd) E)) (vp_Si (fun r => r = 1)) 0 0 (fun _ => False) := by
  refine mx_metX (by decide) rfl rfl (fun {p e s m args below meth c Q} hB hX hRet ls hl => ?_)
  have hx := hB.x
  have hb := hB.b
  have hl : lv_has ls 1 [(0, .ref a)] := hl
  obtain ⟨⟨v, h1, h2, h3, h4⟩, hj1, hj2⟩ := hX
  refine va_gets hx hb hj1 va_S.rf hB.o (hB.w wfl_J0_38) (fun _ h => h) dJ0_isLatin1_aae02_0 ?_
  refine lv_if_eq (tgt := 17) hx hb dJ0_isLatin1_aae02_3 (by decide) (fun c1 => absurd c1 (by decide)) (fun _ => ?_)
  refine lv_aload_n hx hb dJ0_isLatin1_aae02_6 rfl (lv_at hl 0 rfl) ?_
  refine vk_getf hx hb h2 va_S.rf hB.o (hB.w wfl_J0_15) (fun _ h => h) dJ0_isLatin1_aae02_7 ?_
  refine lv_if_ne (tgt := 17) hx hb dJ0_isLatin1_aae02_10 (by decide) (fun c1 => absurd rfl c1) (fun _ => ?_)
  refine lv_iconst hx hb dJ0_isLatin1_aae02_13 kc_i_1 ?_
  refine lv_goto (tgt := 18) hx hb dJ0_isLatin1_aae02_14 (by decide) ?_
  exact hRet 1 18 ls dJ0_isLatin1_aae02_18 rfl rfl
set_option maxHeartbeats 4000000 in
theorem c_J0_length_8abf5 (l : Launch) (E : mx_E) (a : Nat) (wd : List Int32) (post : Int32 → Prop) (hf : f_J0_length_8abf5 wd post) : Met l yJ0_length_8abf5 (Cond.code yJ0_length_8abf5 cJ0_length_8abf5 1 (some .int) :: mx_WS) rm_J0_length_8abf5 (va_Pc [.ref a] (mx_Px (mx_Str a wd) E)) (vp_Si post) 0 0 (fun _ => False) := by
  refine mx_metX (by decide) rfl rfl (fun {p e s m args below meth c Q} hB hX hRet ls hl => ?_)
  have hx := hB.x
  have hb := hB.b
  have hl : lv_has ls 1 [(0, .ref a)] := hl
  obtain ⟨⟨v, h1, h2, h3, h4⟩, hj1, hj2⟩ := id hX
  refine lv_aload_n hx hb dJ0_length_8abf5_0 rfl (lv_at hl 0 rfl) ?_
  refine vk_getf hx hb h3 va_S.rf hB.o (hB.w wfl_J0_9) (fun _ h => h) dJ0_length_8abf5_1 ?_
  refine va_tlen hx hb h4 va_S.rf rfl dJ0_length_8abf5_4 ?_
  refine lv_aload_n hx hb dJ0_length_8abf5_5 rfl (lv_at hl 0 rfl) ?_
  refine mx_gi (mx_runV (As := []) (rest := [.int (Int32.ofNat wd.length)]) hB (c_J0_coder l E a wd) sB_J0_coder_7d493 sV_J0_coder_7d493 wml_J0_335 rfl (mx_ppS hB hX) hl.1 rfl (Nat.le_of_ble_eq_true rfl) dJ0_length_8abf5_6 ⟨Nat.zero_le _, Nat.zero_le _⟩) (fun r hr => ?_)
  subst hr
  refine lv_ishr hx hb dJ0_length_8abf5_9 ?_
  exact hRet _ 10 ls dJ0_length_8abf5_10 rfl hf
set_option maxHeartbeats 4000000 in
theorem c_J3_checkIndex (l : Launch) (E : mx_E) (i n : Int32) (v : Value) (h1 : ¬ i < 0) (h2 : i < n) (hv : (lg_sl [v]).length = 1) : Met l yJ3_checkIndex_8e157 (Cond.code yJ3_checkIndex_8e157 cJ3_checkIndex_8e157 3 (some .int) :: mx_WS) rm_J0 (va_Pc [.int i, .int n, v] (mx_Px (fun _ => True) E)) (vp_Si (fun r => r = i)) 0 0 (fun _ => False) := by
  refine mx_metX (by decide) rfl ?_ (fun {p e s m args below meth c Q} hB hX hRet ls hl => ?_)
  · have h3 : (lg_sl [.int i, .int n, v]).length = 3 := by
      have h4 : lg_sl [.int i, .int n, v] = lg_sl [.int i] ++ (lg_sl [.int n] ++ lg_sl [v]) := by simp [lg_sl]
      rw [h4, List.length_append, List.length_append, hv]; rfl
    rw [h3]; rfl
  have hx := hB.x
  have hb := hB.b
  have hl : lv_has ls 3 [(0, .int i), (1, .int n)] := lv_sub hl [0, 1] rfl
  refine lv_iload_n hx hb dJ3_checkIndex_8e157_0 rfl (lv_at hl 0 rfl) ?_
  refine lv_if_lt (tgt := 9) hx hb dJ3_checkIndex_8e157_1 (by decide) (fun c1 => absurd c1 h1) (fun _ => ?_)
  refine lv_iload_n hx hb dJ3_checkIndex_8e157_4 rfl (lv_at hl 0 rfl) ?_
  refine lv_iload_n hx hb dJ3_checkIndex_8e157_5 rfl (lv_at hl 1 rfl) ?_
  refine lv_icmp_lt (tgt := 16) hx hb dJ3_checkIndex_8e157_6 (by decide) (fun _ => ?_) (fun c1 => absurd h2 c1)
  refine lv_iload_n hx hb dJ3_checkIndex_8e157_16 rfl (lv_at hl 0 rfl) ?_
  exact hRet i 17 ls dJ3_checkIndex_8e157_17 rfl rfl
def mx_Jz (U : State) : Prop := mx_Js (fun _ => False) U U.heap
theorem mx_Jz.bl : mx_Bl mx_Jz := fun U g mk b h => mx_Js.moved (u := U) (U := U.calling g mk b) (Vm.Alike.refl U.vm) h
theorem mx_Jz.to {u U : State} (hvm : u.vm.Alike U.vm) (hh : U.heap = u.heap) (h : mx_Jz u) : mx_Jz U := by
  unfold mx_Jz
  rw [hh]
  exact h.moved hvm
set_option maxHeartbeats 4000000 in
theorem c_J0_checkIndex (l : Launch) (E : mx_E) (i n : Int32) (h1 : ¬ i < 0) (h2 : i < n) : Met l yJ0_checkIndex_df160 (Cond.code yJ0_checkIndex_df160 cJ0_checkIndex_df160 2 none :: mx_WS) rm_J0_checkIndex (va_Pc [.int i, .int n] (mx_Px mx_Jz E)) (va_Sv (fun _ => True)) 0 0 (fun _ => False) := by
  refine mx_metXv (by decide) rfl rfl (fun {p e s m args below meth c Q} hB hX hRet ls hl => ?_)
  have hx := hB.x
  have hb := hB.b
  have hl : lv_has ls 2 [(0, .int i), (1, .int n)] := hl
  refine lv_iload_n hx hb dJ0_checkIndex_df160_0 rfl (lv_at hl 0 rfl) ?_
  refine lv_iload_n hx hb dJ0_checkIndex_df160_1 rfl (lv_at hl 1 rfl) ?_
  rcases hX.2 with hz | ⟨t, hz⟩
  · refine va_gets hx hb hz va_S.rf hB.o (hB.w wfl_J0_1053) (fun _ h => h) dJ0_checkIndex_df160_2 ?_
    refine mx_gi (mx_runS (As := [.int i, .int n, .null]) (rest := []) hB (c_J3_checkIndex l E i n .null h1 h2 rfl) sB_J3_checkIndex_8e157 wst_J3_checkIndex_8e157 wml_J0_1059 rfl (mx_px hB (fun _ _ _ _ _ => trivial) (fun _ _ _ => trivial)) hl.1 rfl (Nat.le_of_ble_eq_true rfl) dJ0_checkIndex_df160_5 ⟨Nat.zero_le _, Nat.zero_le _⟩) (fun r hr => ?_)
    refine lv_pop hx hb dJ0_checkIndex_df160_8 rfl ?_
    exact hRet 9 ls dJ0_checkIndex_df160_9 trivial
  · refine va_gets hx hb hz va_S.rf hB.o (hB.w wfl_J0_1053) (fun _ h => h) dJ0_checkIndex_df160_2 ?_
    refine mx_gi (mx_runS (As := [.int i, .int n, .ref t]) (rest := []) hB (c_J3_checkIndex l E i n (.ref t) h1 h2 rfl) sB_J3_checkIndex_8e157 wst_J3_checkIndex_8e157 wml_J0_1059 rfl (mx_px hB (fun _ _ _ _ _ => trivial) (fun _ _ _ => trivial)) hl.1 rfl (Nat.le_of_ble_eq_true rfl) dJ0_checkIndex_df160_5 ⟨Nat.zero_le _, Nat.zero_le _⟩) (fun r hr => ?_)
    refine lv_pop hx hb dJ0_checkIndex_df160_8 rfl ?_
    exact hRet 9 ls dJ0_checkIndex_df160_9 trivial
def mx_Tz (v : Nat) (wd : List Int32) (U : State) : Prop := va_T .byte v wd.length (fun j => .int (wd.getD j 0)) (fun _ => False) U U.heap ∧ mx_Jz U
theorem mx_Tz.to {v : Nat} {wd : List Int32} {u U : State} (hvm : u.vm.Alike U.vm) (hh : U.heap = u.heap) (h : mx_Tz v wd u) : mx_Tz v wd U := by
  refine ⟨?_, h.2.to hvm hh⟩
  rw [hh]
  exact h.1.moved hvm
theorem mx_Tz.bl {v : Nat} {wd : List Int32} : mx_Bl (mx_Tz v wd) := fun U g mk b h => mx_Tz.to (u := U) (U := U.calling g mk b) (Vm.Alike.refl U.vm) rfl h
theorem mx_in_lt {i : Int32} {N : Nat} (h : vp_in i N) (hN : N < 2 ^ 31) : ¬ i < 0 ∧ i < Int32.ofNat N := by
  obtain ⟨j, hj, rfl⟩ := vp_in_of h hN
  exact ⟨nI_pos (by omega), nI_lt hj hN⟩
set_option maxHeartbeats 4000000 in
theorem c_J1_charAt (l : Launch) (E : mx_E) (v : Nat) (wd : List Int32) (hw : wd.length < 2 ^ 31) (i : Int32) (hi : vp_in i wd.length) : Met l yJ1_charAt_3b067 (Cond.code yJ1_charAt_3b067 cJ1_charAt_3b067 2 (some .char) :: mx_WS) rm_J1_charAt (va_Pc [.ref v, .int i] (mx_Px (mx_Tz v wd) E)) (vp_Si (fun r => r = mx_ch (wd.getD i.toNatClampNeg 0))) 0 0 (fun _ => False) := by
  refine mx_metX (by decide) rfl rfl (fun {p e s m args below meth c Q} hB hX hRet ls hl => ?_)
  have hx := hB.x
  have hb := hB.b
  have hl : lv_has ls 2 [(0, .ref v), (1, .int i)] := hl
  refine lv_iload_n hx hb dJ1_charAt_3b067_0 rfl (lv_at hl 1 rfl) ?_
  refine lv_aload_n hx hb dJ1_charAt_3b067_1 rfl (lv_at hl 0 rfl) ?_
  refine va_tlen hx hb hX.1 va_S.rf rfl dJ1_charAt_3b067_2 ?_
  refine mx_gv (mx_runS (As := [.int i, .int (Int32.ofNat wd.length)]) (rest := []) hB (c_J0_checkIndex l E i (Int32.ofNat wd.length) (mx_in_lt hi hw).1 (mx_in_lt hi hw).2) sB_J0_checkIndex_df160 wst_J0_checkIndex_df160 wml_J1_9 rfl (mx_px hB mx_Jz.bl (fun U hU hW => hX.2.to hW.alike hU)) hl.1 rfl (Nat.le_of_ble_eq_true rfl) dJ1_charAt_3b067_3 ⟨Nat.zero_le _, Nat.zero_le _⟩) (fun _ => ?_)
  refine lv_aload_n hx hb dJ1_charAt_3b067_6 rfl (lv_at hl 0 rfl) ?_
  refine lv_iload_n hx hb dJ1_charAt_3b067_7 rfl (lv_at hl 1 rfl) ?_
  refine va_tb hx hb hX.1 va_S.rf hi rfl dJ1_charAt_3b067_8 ?_
  refine lv_sipush hx hb dJ1_charAt_3b067_9 kc_s_255 ?_
  refine lv_iand hx hb dJ1_charAt_3b067_12 ?_
  refine lv_i2c hx hb dJ1_charAt_3b067_13 rfl ?_
  exact hRet _ 14 ls dJ1_charAt_3b067_14 (pk_nc _) rfl
set_option maxHeartbeats 4000000 in
theorem c_J0_charAt_5068e (l : Launch) (E : mx_E) (a : Nat) (wd : List Int32) (i : Int32) (post : Int32 → Prop) (hf : f_J0_charAt_5068e wd i post) : Met l yJ0_charAt_5068e (Cond.code yJ0_charAt_5068e cJ0_charAt_5068e 2 (some .char) :: mx_WS) rm_J0_charAt_5068e (va_Pc [.ref a, .int i] (mx_Px (mx_Str a wd) E)) (vp_Si post) 0 0 (fun _ => False) := by
  refine mx_metX (by decide) rfl rfl (fun {p e s m args below meth c Q} hB hX hRet ls hl => ?_)
  have hx := hB.x
  have hb := hB.b
  have hl : lv_has ls 2 [(0, .ref a), (1, .int i)] := hl
  obtain ⟨⟨v, h1, h2, h3, h4⟩, hj⟩ := id hX
  refine lv_aload_n hx hb dJ0_charAt_5068e_0 rfl (lv_at hl 0 rfl) ?_
  refine mx_gi (mx_runV (As := []) (rest := []) hB (c_J0_isLatin1 l E a wd) sB_J0_isLatin1_aae02 sV_J0_isLatin1_aae02 wml_J0_492 rfl (mx_ppS hB hX) hl.1 rfl (Nat.le_of_ble_eq_true rfl) dJ0_charAt_5068e_1 ⟨Nat.zero_le _, Nat.zero_le _⟩) (fun r hr => ?_)
  subst hr
  refine lv_if_eq (tgt := 16) hx hb dJ0_charAt_5068e_4 (by decide) (fun c1 => absurd c1 (by decide)) (fun _ => ?_)
  refine lv_aload_n hx hb dJ0_charAt_5068e_7 rfl (lv_at hl 0 rfl) ?_
  refine vk_getf hx hb h3 va_S.rf hB.o (hB.w wfl_J0_9) (fun _ h => h) dJ0_charAt_5068e_8 ?_
  refine lv_iload_n hx hb dJ0_charAt_5068e_11 rfl (lv_at hl 1 rfl) ?_
  refine mx_gi (mx_runS (As := [.ref v, .int i]) (rest := []) hB (c_J1_charAt l E v wd hf.1.1 i hf.1.2) sB_J1_charAt_3b067 wst_J1_charAt_3b067 wml_J0_495 rfl (mx_px hB mx_Tz.bl (fun U hU hW => mx_Tz.to hW.alike hU ⟨h4, hj⟩)) hl.1 rfl (Nat.le_of_ble_eq_true rfl) dJ0_charAt_5068e_12 ⟨Nat.zero_le _, Nat.zero_le _⟩) (fun r hr => ?_)
  subst hr
  exact hRet _ 15 ls dJ0_charAt_5068e_15 (pk_nc _) hf.2
