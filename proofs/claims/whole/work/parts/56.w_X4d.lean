def rm_X4_fits : Room := { frames := 1, cells := 0, slots := 0, locals := 23 }
set_option maxHeartbeats 4000000 in
set_option maxRecDepth 100000 in
theorem b_X4_fits {p : Program} {l : Launch} {e : Env} {s : State} {m : MethodId} {args : Array Value} {below : List Frame} {meth : Method} {c : Code} {Q : State → Prop} (E : mx_E) (a_t : Nat) (a_text : Nat) (a_told : Nat) (a_reader : Nat) (a_tower : Nat) (a_kept : Nat) (a_isKept : Nat) (a_lifts : Nat) (a_seenAt : Nat) (a_seenInches : Nat) (a_ways : Nat) (a_trial : Nat) (a_told_kind : Nat) (a_told_weight : Nat) (a_told_strength : Nat) (a_told_height : Nat) (a_told_folk : Nat) (a_told_mustBeAbove : Nat) (a_told_wind : Nat) (a_tower_order : Nat) (v_liftsMany : Int32) (v_seenMany : Int32) (v_told_storeys : Int32) (v_told_pairs : Int32) (v_told_bears : Int32) (v_told_soft : Int32) (v_told_cellars : Int32) (v_seenAt : (Nat → Int32)) (v_tower_many : Int32) (v_tower_day : Int32) (v_tower_order : (Nat → Int32)) (v_seenInches : (Nat → Int32)) (v_told_weight : (Nat → Int32)) (v_told_folk : (Nat → Int32)) (x1 : Int32) (x2 : Int32) (post : Int32 → Prop) (hB : mx_B p m c cX4_fits 9 s args RX4 E) (hP : va_P E.1 vwCl (w_X4_fits E a_t a_text a_told a_reader a_tower a_kept a_isKept a_lifts a_seenAt a_seenInches a_ways a_trial a_told_kind a_told_weight a_told_strength a_told_height a_told_folk a_told_mustBeAbove a_told_wind a_tower_order v_liftsMany v_seenMany v_told_storeys v_told_pairs v_told_bears v_told_soft v_told_cellars v_seenAt v_tower_many v_tower_day v_tower_order v_seenInches v_told_weight v_told_folk) s.heap) (hRet : ∀ (v : Int32) (pc : Nat) (ls : Array Slot), decode cX4_fits pc = .ok (.ireturn, 1) → post v → W p l e rm_X4_fits s m args below meth c s.heap [] 0 0 Q (F0 m pc ls [.int v])) (hf : f_X4_fits v_told_storeys v_seenMany v_seenAt v_tower_many v_tower_order v_seenInches v_told_soft v_told_weight v_told_folk x1 x2 post) (ls : Array Slot) (hl : lv_has ls 9 [(0, .ref a_t), (1, .int x1), (2, .int x2)]) : W p l e rm_X4_fits s m args below meth c s.heap [] 0 0 Q (F0 m 0 ls []) := by
  have hx := hB.x
  have hb := hB.b
  have J_169 : ∀ (j169_x2 : Int32) (j169_x3 : Int32) (j169_x4 : Int32) (ls : Array Slot), f_X4_fits_169 v_told_storeys v_seenMany v_seenAt v_tower_many v_tower_order v_seenInches v_told_soft v_told_weight v_told_folk post j169_x2 j169_x3 j169_x4 → lv_has ls 9 [(2, .int j169_x2), (3, .int j169_x3), (4, .int j169_x4)] → W p l e rm_X4_fits s m args below meth c s.heap [] 0 0 Q (F0 m 169 ls []) := by
    intro j169_x2 j169_x3 j169_x4 ls hf hl
    unfold f_X4_fits_169 at hf
    refine lv_iconst hx hb dX4_fits_169 kc_i_0 ?_
    refine lv_iload hx hb dX4_fits_170 (lv_at hl 2 rfl) ?_
    refine lv_iload_n hx hb dX4_fits_172 rfl (lv_at hl 1 rfl) ?_
    refine lv_isub hx hb dX4_fits_173 ?_
    refine lv_iconst hx hb dX4_fits_174 kc_i_1 ?_
    refine lv_iadd hx hb dX4_fits_175 ?_
    refine va_mmax hx hb (by rw [hB.l, hl.1]) hB.o (hB.w wml_X4_209) (hB.w wst_mmax) (hB.w win_math) (hB.w wcd_mmax) (by decide) (Nat.le_of_ble_eq_true rfl) (Nat.zero_le _) (Nat.zero_le _) dX4_fits_176 ?_
    refine lv_istore (lv' := [(5, .int (if 0 < ((j169_x4 - j169_x3) + 1) then ((j169_x4 - j169_x3) + 1) else 0)), (2, .int j169_x2), (3, .int j169_x3), (4, .int j169_x4)]) hx hb dX4_fits_179 hl (by decide) rfl (fun ls hl => ?_)
    refine lv_iload_n hx hb dX4_fits_181 rfl (lv_at hl 1 rfl) ?_
    refine lv_if_ne (tgt := 188) hx hb dX4_fits_182 (by decide) (fun c182 => ?_) (fun c182 => ?_)
    · have hf := hf.1 c182
      refine lv_iload hx hb dX4_fits_188 (lv_at hl 0 rfl) ?_
      refine lv_if_ne (tgt := 195) hx hb dX4_fits_190 (by decide) (fun c190 => ?_) (fun c190 => ?_)
      · have hf := hf.1 c190
        refine lv_iload_n hx hb dX4_fits_195 rfl (lv_at hl 1 rfl) ?_
        refine lv_iconst hx hb dX4_fits_196 kc_i_1 ?_
        refine lv_icmp_ne (tgt := 204) hx hb dX4_fits_197 (by decide) (fun c197 => ?_) (fun c197 => ?_)
        · have hf := hf.1 c197
          refine lv_iload hx hb dX4_fits_204 (lv_at hl 3 rfl) ?_
          exact hRet j169_x4 206 ls dX4_fits_206 hf
        · have hf := hf.2 c197
          refine lv_iload_n hx hb dX4_fits_200 rfl (lv_at hl 2 rfl) ?_
          refine lv_goto (tgt := 206) hx hb dX4_fits_201 (by decide) ?_
          exact hRet j169_x3 206 ls dX4_fits_206 hf
      · have hf := hf.2 c190
        refine lv_iconst hx hb dX4_fits_193 kc_i_m1 ?_
        exact hRet (-1) 194 ls dX4_fits_194 hf
    · have hf := hf.2 c182
      refine lv_iload hx hb dX4_fits_185 (lv_at hl 0 rfl) ?_
      exact hRet (if 0 < ((j169_x4 - j169_x3) + 1) then ((j169_x4 - j169_x3) + 1) else 0) 187 ls dX4_fits_187 hf
  have L_35 : ∀ (g35_x1 : Int32) (g35_x2 : Int32) (n : Nat) (j35_x3 : Int32) (j35_x4 : Int32) (j35_x5 : Int32) (ls : Array Slot), mx_l3 (f_X4_fits_35 v_told_storeys v_seenMany v_seenAt v_tower_many v_tower_order v_seenInches v_told_soft v_told_weight v_told_folk post g35_x1 g35_x2) n j35_x3 j35_x4 j35_x5 → lv_has ls 9 [(0, .ref a_t), (1, .int g35_x1), (2, .int g35_x2), (3, .int j35_x3), (4, .int j35_x4), (5, .int j35_x5)] → W p l e rm_X4_fits s m args below meth c s.heap [] 0 0 Q (F0 m 35 ls []) := by
    intro g35_x1 g35_x2 n_35
    induction n_35 with
    | zero =>
      intro j35_x3 j35_x4 j35_x5 ls hf hl
      exact False.elim hf
    | succ n_35 ih_35 =>
      intro j35_x3 j35_x4 j35_x5 ls hf hl
      replace hf : f_X4_fits_35 v_told_storeys v_seenMany v_seenAt v_tower_many v_tower_order v_seenInches v_told_soft v_told_weight v_told_folk post g35_x1 g35_x2 (mx_l3 (f_X4_fits_35 v_told_storeys v_seenMany v_seenAt v_tower_many v_tower_order v_seenInches v_told_soft v_told_weight v_told_folk post g35_x1 g35_x2) n_35) j35_x3 j35_x4 j35_x5 := hf
      unfold f_X4_fits_35 at hf
      refine lv_iload hx hb dX4_fits_35 (lv_at hl 5 rfl) ?_
      refine lv_aload_n hx hb dX4_fits_37 rfl (lv_at hl 0 rfl) ?_
      refine gf_X4_90 hB hP 0 rfl rfl dX4_fits_38 ?_
      refine lv_icmp_ge (tgt := 169) hx hb dX4_fits_41 (by decide) (fun c41 => ?_) (fun c41 => ?_)
      · have hf := hf.1 c41
        exact J_169 g35_x2 j35_x3 j35_x4 ls hf (lv_sub hl [2, 3, 4] rfl)
      · have hf := hf.2 c41
        refine lv_aload_n hx hb dX4_fits_44 rfl (lv_at hl 0 rfl) ?_
        refine gf_X4_35 hB hP 0 rfl rfl dX4_fits_45 ?_
        refine lv_aload_n hx hb dX4_fits_48 rfl (lv_at hl 0 rfl) ?_
        refine gf_X4_51 hB hP 0 rfl rfl dX4_fits_49 ?_
        refine lv_iload hx hb dX4_fits_52 (lv_at hl 5 rfl) ?_
        obtain ⟨h_in, hf⟩ := hf
        refine va_iald hx hb hB.K hP 2 0 rfl rfl h_in dX4_fits_54 ?_
        refine mx_gi (mx_runN (As := [.int (v_seenAt j35_x5.toNatClampNeg)]) (rest := []) hB (c_X3_firstOnes l E a_tower a_tower_order v_tower_many v_tower_day v_tower_order (v_seenAt j35_x5.toNatClampNeg) _ hf) sB_X3_firstOnes sV_X3_firstOnes wmn_X4_149 rfl (mx_ppV hB hP [3, 4] rfl 3 rfl rfl rfl) hl.1 rfl (Nat.le_of_ble_eq_true rfl) dX4_fits_55 ⟨Nat.zero_le _, Nat.zero_le _⟩) (fun r1 hf => ?_)
        refine lv_istore (lv' := [(6, .int r1), (0, .ref a_t), (1, .int g35_x1), (2, .int g35_x2), (3, .int j35_x3), (4, .int j35_x4), (5, .int j35_x5)]) hx hb dX4_fits_58 hl (by decide) rfl (fun ls hl => ?_)
        refine lv_aload_n hx hb dX4_fits_60 rfl (lv_at hl 1 rfl) ?_
        refine gf_X4_54 hB hP 0 rfl rfl dX4_fits_61 ?_
        refine lv_iload hx hb dX4_fits_64 (lv_at hl 6 rfl) ?_
        obtain ⟨h_in, hf⟩ := hf
        refine va_iald hx hb hB.K hP 5 0 rfl rfl h_in dX4_fits_66 ?_
        refine lv_aload_n hx hb dX4_fits_67 rfl (lv_at hl 1 rfl) ?_
        refine gf_X4_19 hB hP 0 rfl rfl dX4_fits_68 ?_
        refine gf_X4_206 hB hP 1 rfl rfl dX4_fits_71 ?_
        refine lv_imul hx hb dX4_fits_74 ?_
        refine lv_aload_n hx hb dX4_fits_75 rfl (lv_at hl 1 rfl) ?_
        refine gf_X4_19 hB hP 0 rfl rfl dX4_fits_76 ?_
        refine lv_iload hx hb dX4_fits_79 (lv_at hl 0 rfl) ?_
        refine mx_gi (mx_runN (As := [.int r1]) (rest := [.int ((v_seenInches j35_x5.toNatClampNeg) * v_told_soft)]) hB (c_X1_loadOf l E a_told a_told_kind a_told_weight a_told_strength a_told_height a_told_folk a_told_mustBeAbove a_told_wind v_told_storeys v_told_pairs v_told_bears v_told_soft v_told_cellars v_told_weight v_told_folk r1 _ hf) sB_X1_loadOf sV_X1_loadOf wmn_X4_119 rfl (mx_ppV hB hP [1, 6, 7] rfl 1 rfl rfl rfl) hl.1 rfl (Nat.le_of_ble_eq_true rfl) dX4_fits_81 ⟨Nat.zero_le _, Nat.zero_le _⟩) (fun r2 hf => ?_)
        refine lv_isub hx hb dX4_fits_84 ?_
        refine lv_istore (lv' := [(7, .int (((v_seenInches j35_x5.toNatClampNeg) * v_told_soft) - r2)), (6, .int r1), (0, .ref a_t), (1, .int g35_x1), (2, .int g35_x2), (3, .int j35_x3), (4, .int j35_x4), (5, .int j35_x5)]) hx hb dX4_fits_85 hl (by decide) rfl (fun ls hl => ?_)
        refine lv_iload hx hb dX4_fits_87 (lv_at hl 0 rfl) ?_
        refine lv_aload_n hx hb dX4_fits_89 rfl (lv_at hl 2 rfl) ?_
        refine gf_X4_19 hB hP 0 rfl rfl dX4_fits_90 ?_
        refine gf_X4_206 hB hP 1 rfl rfl dX4_fits_93 ?_
        refine lv_iadd hx hb dX4_fits_96 ?_
        refine lv_iconst hx hb dX4_fits_97 kc_i_1 ?_
        refine lv_isub hx hb dX4_fits_98 ?_
        refine lv_istore (lv' := [(8, .int (((((v_seenInches j35_x5.toNatClampNeg) * v_told_soft) - r2) + v_told_soft) - 1)), (7, .int (((v_seenInches j35_x5.toNatClampNeg) * v_told_soft) - r2)), (6, .int r1), (0, .ref a_t), (1, .int g35_x1), (2, .int g35_x2), (3, .int j35_x3), (4, .int j35_x4), (5, .int j35_x5)]) hx hb dX4_fits_99 hl (by decide) rfl (fun ls hl => ?_)
        refine lv_iload hx hb dX4_fits_101 (lv_at hl 2 rfl) ?_
        refine lv_iload_n hx hb dX4_fits_103 rfl (lv_at hl 4 rfl) ?_
        refine lv_ishr hx hb dX4_fits_104 ?_
        refine lv_iconst hx hb dX4_fits_105 kc_i_1 ?_
        refine lv_iand hx hb dX4_fits_106 ?_
        refine lv_iconst hx hb dX4_fits_107 kc_i_1 ?_
        refine lv_icmp_ne (tgt := 150) hx hb dX4_fits_108 (by decide) (fun c108 => ?_) (fun c108 => ?_)
        · have hf := hf.1 c108
          refine lv_iload hx hb dX4_fits_150 (lv_at hl 1 rfl) ?_
          refine lv_if_gt (tgt := 160) hx hb dX4_fits_152 (by decide) (fun c152 => ?_) (fun c152 => ?_)
          · have hf := hf.1 c152
            refine lv_iconst hx hb dX4_fits_160 kc_i_0 ?_
            refine lv_istore (lv' := [(4, .int 0), (8, .int (((((v_seenInches j35_x5.toNatClampNeg) * v_told_soft) - r2) + v_told_soft) - 1)), (7, .int (((v_seenInches j35_x5.toNatClampNeg) * v_told_soft) - r2)), (6, .int r1), (0, .ref a_t), (1, .int g35_x1), (2, .int g35_x2), (3, .int j35_x3), (5, .int j35_x5)]) hx hb dX4_fits_161 hl (by decide) rfl (fun ls hl => ?_)
            refine lv_iinc (v := j35_x5 + 1) (lv' := [(5, .int (j35_x5 + 1)), (4, .int 0), (8, .int (((((v_seenInches j35_x5.toNatClampNeg) * v_told_soft) - r2) + v_told_soft) - 1)), (7, .int (((v_seenInches j35_x5.toNatClampNeg) * v_told_soft) - r2)), (6, .int r1), (0, .ref a_t), (1, .int g35_x1), (2, .int g35_x2), (3, .int j35_x3)]) hx hb dX4_fits_163 hl (k := 8) rfl (by rw [kc_i_1]) (by decide) rfl (fun ls hl => ?_)
            refine lv_goto (tgt := 35) hx hb dX4_fits_166 (by decide) ?_
            exact ih_35 j35_x3 0 (j35_x5 + 1) ls hf (lv_sub hl [5, 6, 7, 8, 1, 0] rfl)
          · have hf := hf.2 c152
            refine lv_iload hx hb dX4_fits_155 (lv_at hl 0 rfl) ?_
            refine lv_if_ge (tgt := 163) hx hb dX4_fits_157 (by decide) (fun c157 => ?_) (fun c157 => ?_)
            · have hf := hf.1 c157
              refine lv_iinc (v := j35_x5 + 1) (lv' := [(5, .int (j35_x5 + 1)), (8, .int (((((v_seenInches j35_x5.toNatClampNeg) * v_told_soft) - r2) + v_told_soft) - 1)), (7, .int (((v_seenInches j35_x5.toNatClampNeg) * v_told_soft) - r2)), (6, .int r1), (0, .ref a_t), (1, .int g35_x1), (2, .int g35_x2), (3, .int j35_x3), (4, .int j35_x4)]) hx hb dX4_fits_163 hl (k := 8) rfl (by rw [kc_i_1]) (by decide) rfl (fun ls hl => ?_)
              refine lv_goto (tgt := 35) hx hb dX4_fits_166 (by decide) ?_
              exact ih_35 j35_x3 j35_x4 (j35_x5 + 1) ls hf (lv_sub hl [4, 5, 6, 7, 8, 0] rfl)
            · have hf := hf.2 c157
              refine lv_iconst hx hb dX4_fits_160 kc_i_0 ?_
              refine lv_istore (lv' := [(4, .int 0), (8, .int (((((v_seenInches j35_x5.toNatClampNeg) * v_told_soft) - r2) + v_told_soft) - 1)), (7, .int (((v_seenInches j35_x5.toNatClampNeg) * v_told_soft) - r2)), (6, .int r1), (0, .ref a_t), (1, .int g35_x1), (2, .int g35_x2), (3, .int j35_x3), (5, .int j35_x5)]) hx hb dX4_fits_161 hl (by decide) rfl (fun ls hl => ?_)
              refine lv_iinc (v := j35_x5 + 1) (lv' := [(5, .int (j35_x5 + 1)), (4, .int 0), (8, .int (((((v_seenInches j35_x5.toNatClampNeg) * v_told_soft) - r2) + v_told_soft) - 1)), (7, .int (((v_seenInches j35_x5.toNatClampNeg) * v_told_soft) - r2)), (6, .int r1), (0, .ref a_t), (1, .int g35_x1), (2, .int g35_x2), (3, .int j35_x3)]) hx hb dX4_fits_163 hl (k := 8) rfl (by rw [kc_i_1]) (by decide) rfl (fun ls hl => ?_)
              refine lv_goto (tgt := 35) hx hb dX4_fits_166 (by decide) ?_
              exact ih_35 j35_x3 0 (j35_x5 + 1) ls hf (lv_sub hl [5, 6, 7, 8, 1, 0] rfl)
        · have hf := hf.2 c108
          refine lv_iload_n hx hb dX4_fits_111 rfl (lv_at hl 6 rfl) ?_
          refine lv_aload_n hx hb dX4_fits_112 rfl (lv_at hl 3 rfl) ?_
          refine gf_X4_19 hB hP 0 rfl rfl dX4_fits_113 ?_
          refine gf_X4_103 hB hP 1 rfl rfl dX4_fits_116 ?_
          refine lv_iload_n hx hb dX4_fits_119 rfl (lv_at hl 4 rfl) ?_
          obtain ⟨h_in, hf⟩ := hf
          refine va_iald hx hb hB.K hP 6 0 rfl rfl h_in dX4_fits_120 ?_
          refine lv_iload hx hb dX4_fits_121 (lv_at hl 1 rfl) ?_
          refine lv_iadd hx hb dX4_fits_123 ?_
          refine va_mmax hx hb (by rw [hB.l, hl.1]) hB.o (hB.w wml_X4_209) (hB.w wst_mmax) (hB.w win_math) (hB.w wcd_mmax) (by decide) (Nat.le_of_ble_eq_true rfl) (Nat.zero_le _) (Nat.zero_le _) dX4_fits_124 ?_
          refine lv_topi (fun z3 ez3 => ?_)
          have hf := hf z3 ez3
          refine lv_istore_n (lv' := [(3, .int z3), (8, .int (((((v_seenInches j35_x5.toNatClampNeg) * v_told_soft) - r2) + v_told_soft) - 1)), (7, .int (((v_seenInches j35_x5.toNatClampNeg) * v_told_soft) - r2)), (6, .int r1), (0, .ref a_t), (1, .int g35_x1), (2, .int g35_x2), (4, .int j35_x4), (5, .int j35_x5)]) hx hb dX4_fits_127 rfl hl (by decide) rfl (fun ls hl => ?_)
          refine lv_iload hx hb dX4_fits_128 (lv_at hl 7 rfl) ?_
          refine lv_aload_n hx hb dX4_fits_130 rfl (lv_at hl 4 rfl) ?_
          refine gf_X4_19 hB hP 0 rfl rfl dX4_fits_131 ?_
          refine gf_X4_103 hB hP 1 rfl rfl dX4_fits_134 ?_
          refine lv_iload_n hx hb dX4_fits_137 rfl (lv_at hl 5 rfl) ?_
          obtain ⟨h_in, hf⟩ := hf
          refine va_iald hx hb hB.K hP 6 0 rfl rfl h_in dX4_fits_138 ?_
          refine lv_iload hx hb dX4_fits_139 (lv_at hl 1 rfl) ?_
          refine lv_iadd hx hb dX4_fits_141 ?_
          refine va_mmin hx hb (by rw [hB.l, hl.1]) hB.o (hB.w wml_X4_215) (hB.w wst_mmin) (hB.w win_math) (hB.w wcd_mmin) (by decide) (Nat.le_of_ble_eq_true rfl) (Nat.zero_le _) (Nat.zero_le _) dX4_fits_142 ?_
          refine lv_topi (fun z4 ez4 => ?_)
          have hf := hf z4 ez4
          refine lv_istore (lv' := [(4, .int z4), (3, .int z3), (8, .int (((((v_seenInches j35_x5.toNatClampNeg) * v_told_soft) - r2) + v_told_soft) - 1)), (7, .int (((v_seenInches j35_x5.toNatClampNeg) * v_told_soft) - r2)), (6, .int r1), (0, .ref a_t), (1, .int g35_x1), (2, .int g35_x2), (5, .int j35_x5)]) hx hb dX4_fits_145 hl (by decide) rfl (fun ls hl => ?_)
          refine lv_goto (tgt := 163) hx hb dX4_fits_147 (by decide) ?_
          refine lv_iinc (v := j35_x5 + 1) (lv' := [(5, .int (j35_x5 + 1)), (4, .int z4), (3, .int z3), (8, .int (((((v_seenInches j35_x5.toNatClampNeg) * v_told_soft) - r2) + v_told_soft) - 1)), (7, .int (((v_seenInches j35_x5.toNatClampNeg) * v_told_soft) - r2)), (6, .int r1), (0, .ref a_t), (1, .int g35_x1), (2, .int g35_x2)]) hx hb dX4_fits_163 hl (k := 8) rfl (by rw [kc_i_1]) (by decide) rfl (fun ls hl => ?_)
          refine lv_goto (tgt := 35) hx hb dX4_fits_166 (by decide) ?_
          exact ih_35 z3 z4 (j35_x5 + 1) ls hf (lv_sub hl [6, 7, 8, 2, 1, 0] rfl)
  unfold f_X4_fits at hf
  refine lv_aload_n hx hb dX4_fits_0 rfl (lv_at hl 0 rfl) ?_
  refine gf_X4_19 hB hP 0 rfl rfl dX4_fits_1 ?_
  refine lv_iload_n hx hb dX4_fits_4 rfl (lv_at hl 1 rfl) ?_
  refine mx_gi (mx_runN (As := [.int x1]) (rest := []) hB (c_X1_has l E a_told a_told_kind a_told_weight a_told_strength a_told_height a_told_folk a_told_mustBeAbove a_told_wind v_told_storeys v_told_pairs v_told_bears v_told_soft v_told_cellars x1 _ hf) sB_X1_has sV_X1_has wmn_X4_96 rfl (mx_ppV hB hP [1] rfl 1 rfl rfl rfl) hl.1 rfl (Nat.le_of_ble_eq_true rfl) dX4_fits_5 ⟨Nat.zero_le _, Nat.zero_le _⟩) (fun r1 hf => ?_)
  refine lv_if_ne (tgt := 14) hx hb dX4_fits_8 (by decide) (fun c8 => ?_) (fun c8 => ?_)
  · have hf := hf.1 c8
    refine lv_iload_n hx hb dX4_fits_14 rfl (lv_at hl 2 rfl) ?_
    refine lv_if_lt (tgt := 23) hx hb dX4_fits_15 (by decide) (fun c15 => ?_) (fun c15 => ?_)
    · have hf := hf.1 c15
      refine lv_bipush hx hb dX4_fits_23 kc_b_m3 ?_
      exact hRet (-3) 25 ls dX4_fits_25 hf
    · have hf := hf.2 c15
      refine lv_iload_n hx hb dX4_fits_18 rfl (lv_at hl 2 rfl) ?_
      refine lv_iconst hx hb dX4_fits_19 kc_i_2 ?_
      refine lv_icmp_le (tgt := 26) hx hb dX4_fits_20 (by decide) (fun c20 => ?_) (fun c20 => ?_)
      · have hf := hf.1 c20
        refine lv_iconst hx hb dX4_fits_26 kc_i_1 ?_
        refine lv_istore_n (lv' := [(3, .int 1), (0, .ref a_t), (1, .int x1), (2, .int x2)]) hx hb dX4_fits_27 rfl hl (by decide) rfl (fun ls hl => ?_)
        refine lv_bipush hx hb dX4_fits_28 kc_b_99 ?_
        refine lv_istore (lv' := [(4, .int 99), (3, .int 1), (0, .ref a_t), (1, .int x1), (2, .int x2)]) hx hb dX4_fits_30 hl (by decide) rfl (fun ls hl => ?_)
        refine lv_iconst hx hb dX4_fits_32 kc_i_0 ?_
        refine lv_istore (lv' := [(5, .int 0), (4, .int 99), (3, .int 1), (0, .ref a_t), (1, .int x1), (2, .int x2)]) hx hb dX4_fits_33 hl (by decide) rfl (fun ls hl => ?_)
        obtain ⟨n9, hf⟩ := hf
        exact L_35 x1 x2 n9 1 99 0 ls hf (lv_sub hl [3, 4, 5, 2, 1, 0] rfl)
      · have hf := hf.2 c20
        refine lv_bipush hx hb dX4_fits_23 kc_b_m3 ?_
        exact hRet (-3) 25 ls dX4_fits_25 hf
  · have hf := hf.2 c8
    refine lv_bipush hx hb dX4_fits_11 kc_b_m2 ?_
    exact hRet (-2) 13 ls dX4_fits_13 hf
theorem c_X4_fits (l : Launch) (E : mx_E) (a_t : Nat) (a_text : Nat) (a_told : Nat) (a_reader : Nat) (a_tower : Nat) (a_kept : Nat) (a_isKept : Nat) (a_lifts : Nat) (a_seenAt : Nat) (a_seenInches : Nat) (a_ways : Nat) (a_trial : Nat) (a_told_kind : Nat) (a_told_weight : Nat) (a_told_strength : Nat) (a_told_height : Nat) (a_told_folk : Nat) (a_told_mustBeAbove : Nat) (a_told_wind : Nat) (a_tower_order : Nat) (v_liftsMany : Int32) (v_seenMany : Int32) (v_told_storeys : Int32) (v_told_pairs : Int32) (v_told_bears : Int32) (v_told_soft : Int32) (v_told_cellars : Int32) (v_seenAt : (Nat → Int32)) (v_tower_many : Int32) (v_tower_day : Int32) (v_tower_order : (Nat → Int32)) (v_seenInches : (Nat → Int32)) (v_told_weight : (Nat → Int32)) (v_told_folk : (Nat → Int32)) (x1 : Int32) (x2 : Int32) (post : Int32 → Prop) (hf : f_X4_fits v_told_storeys v_seenMany v_seenAt v_tower_many v_tower_order v_seenInches v_told_soft v_told_weight v_told_folk x1 x2 post) : Met l yX4_fits (Cond.code yX4_fits cX4_fits 9 (some .int) :: mx_WS) rm_X4_fits (va_Pc [.ref a_t, .int x1, .int x2] (mx_Pp E (w_X4_fits E a_t a_text a_told a_reader a_tower a_kept a_isKept a_lifts a_seenAt a_seenInches a_ways a_trial a_told_kind a_told_weight a_told_strength a_told_height a_told_folk a_told_mustBeAbove a_told_wind a_tower_order v_liftsMany v_seenMany v_told_storeys v_told_pairs v_told_bears v_told_soft v_told_cellars v_seenAt v_tower_many v_tower_day v_tower_order v_seenInches v_told_weight v_told_folk))) (vp_Si post) 0 0 (fun _ => False) :=
  mx_metPi (by decide) rfl rfl (fun hB hP hRet ls hl => b_X4_fits E a_t a_text a_told a_reader a_tower a_kept a_isKept a_lifts a_seenAt a_seenInches a_ways a_trial a_told_kind a_told_weight a_told_strength a_told_height a_told_folk a_told_mustBeAbove a_told_wind a_tower_order v_liftsMany v_seenMany v_told_storeys v_told_pairs v_told_bears v_told_soft v_told_cellars v_seenAt v_tower_many v_tower_day v_tower_order v_seenInches v_told_weight v_told_folk x1 x2 post hB hP hRet hf ls hl)
def rm_X4_count : Room := { frames := 2, cells := 0, slots := 0, locals := 43 }
set_option maxHeartbeats 4000000 in
set_option maxRecDepth 100000 in
theorem b_X4_count {p : Program} {l : Launch} {e : Env} {s : State} {m : MethodId} {args : Array Value} {below : List Frame} {meth : Method} {c : Code} {Q : State → Prop} (E : mx_E) (a_t : Nat) (a_text : Nat) (a_told : Nat) (a_reader : Nat) (a_tower : Nat) (a_kept : Nat) (a_isKept : Nat) (a_lifts : Nat) (a_seenAt : Nat) (a_seenInches : Nat) (a_ways : Nat) (a_trial : Nat) (a_text_bytes : Nat) (a_tower_order : Nat) (a_told_kind : Nat) (a_told_weight : Nat) (a_told_strength : Nat) (a_told_height : Nat) (a_told_folk : Nat) (a_told_mustBeAbove : Nat) (a_told_wind : Nat) (v_liftsMany : Int32) (v_seenMany : Int32) (v_text_length : Int32) (v_tower_many : Int32) (v_tower_day : Int32) (v_told_storeys : Int32) (v_told_pairs : Int32) (v_told_bears : Int32) (v_told_soft : Int32) (v_told_cellars : Int32) (v_told_wind : (Nat → Int32)) (v_tower_order : (Nat → Int32)) (v_told_weight : (Nat → Int32)) (v_told_folk : (Nat → Int32)) (v_told_height : (Nat → Int32)) (x1 : Int32) (post : Int32 → Prop) (hB : mx_B p m c cX4_count 2 s args RX4 E) (hP : va_P E.1 vwCl (w_X4_count E a_t a_text a_told a_reader a_tower a_kept a_isKept a_lifts a_seenAt a_seenInches a_ways a_trial a_text_bytes a_tower_order a_told_kind a_told_weight a_told_strength a_told_height a_told_folk a_told_mustBeAbove a_told_wind v_liftsMany v_seenMany v_text_length v_tower_many v_tower_day v_told_storeys v_told_pairs v_told_bears v_told_soft v_told_cellars v_told_wind v_tower_order v_told_weight v_told_folk v_told_height) s.heap) (hRet : ∀ (v : Int32) (pc : Nat) (ls : Array Slot), decode cX4_count pc = .ok (.ireturn, 1) → post v → W p l e rm_X4_count s m args below meth c s.heap [] 0 0 Q (F0 m pc ls [.int v])) (hf : f_X4_count v_text_length v_seenMany v_liftsMany v_tower_day v_told_wind v_tower_many v_tower_order v_told_storeys v_told_weight v_told_folk v_told_height v_told_pairs v_told_soft v_told_bears x1 post) (ls : Array Slot) (hl : lv_has ls 2 [(0, .ref a_t), (1, .int x1)]) : W p l e rm_X4_count s m args below meth c s.heap [] 0 0 Q (F0 m 0 ls []) := by
  have hx := hB.x
  have hb := hB.b
  unfold f_X4_count at hf
  refine lv_iload_n hx hb dX4_count_0 rfl (lv_at hl 1 rfl) ?_
  by_cases c1_0 : x1 = 0
  · have hf := hf.1 c1_0
    refine lv_tableIn (tgt := 64) hx hb dX4_count_1 (by rw [c1_0]; decide) (by rw [c1_0]; decide) (by rw [c1_0]; rfl) (by decide) ?_
    refine lv_aload_n hx hb dX4_count_64 rfl (lv_at hl 0 rfl) ?_
    refine gf_X4_19 hB hP 0 rfl rfl dX4_count_65 ?_
    refine gf_X4_164 hB hP 3 rfl rfl dX4_count_68 ?_
    exact hRet v_told_storeys 71 ls dX4_count_71 hf
  · have hf := hf.2 c1_0
    by_cases c1_1 : x1 = 1
    · have hf := hf.1 c1_1
      refine lv_tableIn (tgt := 72) hx hb dX4_count_1 (by rw [c1_1]; decide) (by rw [c1_1]; decide) (by rw [c1_1]; rfl) (by decide) ?_
      refine lv_aload_n hx hb dX4_count_72 rfl (lv_at hl 0 rfl) ?_
      refine gf_X4_19 hB hP 0 rfl rfl dX4_count_73 ?_
      refine gf_X4_173 hB hP 3 rfl rfl dX4_count_76 ?_
      exact hRet v_told_bears 79 ls dX4_count_79 hf
    · have hf := hf.2 c1_1
      by_cases c1_2 : x1 = 2
      · have hf := hf.1 c1_2
        refine lv_tableIn (tgt := 80) hx hb dX4_count_1 (by rw [c1_2]; decide) (by rw [c1_2]; decide) (by rw [c1_2]; rfl) (by decide) ?_
        refine lv_aload_n hx hb dX4_count_80 rfl (lv_at hl 0 rfl) ?_
        refine gf_X4_19 hB hP 0 rfl rfl dX4_count_81 ?_
        refine gf_X4_206 hB hP 3 rfl rfl dX4_count_84 ?_
        exact hRet v_told_soft 87 ls dX4_count_87 hf
      · have hf := hf.2 c1_2
        by_cases c1_3 : x1 = 3
        · have hf := hf.1 c1_3
          refine lv_tableIn (tgt := 88) hx hb dX4_count_1 (by rw [c1_3]; decide) (by rw [c1_3]; decide) (by rw [c1_3]; rfl) (by decide) ?_
          refine lv_aload_n hx hb dX4_count_88 rfl (lv_at hl 0 rfl) ?_
          refine gf_X4_19 hB hP 0 rfl rfl dX4_count_89 ?_
          refine gf_X4_218 hB hP 3 rfl rfl dX4_count_92 ?_
          exact hRet v_told_pairs 95 ls dX4_count_95 hf
        · have hf := hf.2 c1_3
          by_cases c1_4 : x1 = 4
          · have hf := hf.1 c1_4
            refine lv_tableIn (tgt := 96) hx hb dX4_count_1 (by rw [c1_4]; decide) (by rw [c1_4]; decide) (by rw [c1_4]; rfl) (by decide) ?_
            refine lv_aload_n hx hb dX4_count_96 rfl (lv_at hl 0 rfl) ?_
            refine gf_X4_35 hB hP 0 rfl rfl dX4_count_97 ?_
            refine gf_X4_140 hB hP 2 rfl rfl dX4_count_100 ?_
            exact hRet v_tower_many 103 ls dX4_count_103 hf
          · have hf := hf.2 c1_4
            by_cases c1_5 : x1 = 5
            · have hf := hf.1 c1_5
              refine lv_tableIn (tgt := 104) hx hb dX4_count_1 (by rw [c1_5]; decide) (by rw [c1_5]; decide) (by rw [c1_5]; rfl) (by decide) ?_
              refine lv_aload_n hx hb dX4_count_104 rfl (lv_at hl 0 rfl) ?_
              refine gf_X4_35 hB hP 0 rfl rfl dX4_count_105 ?_
              refine gf_X4_126 hB hP 2 rfl rfl dX4_count_108 ?_
              exact hRet v_tower_day 111 ls dX4_count_111 hf
            · have hf := hf.2 c1_5
              by_cases c1_6 : x1 = 6
              · have hf := hf.1 c1_6
                refine lv_tableIn (tgt := 112) hx hb dX4_count_1 (by rw [c1_6]; decide) (by rw [c1_6]; decide) (by rw [c1_6]; rfl) (by decide) ?_
                refine lv_aload_n hx hb dX4_count_112 rfl (lv_at hl 0 rfl) ?_
                refine gf_X4_19 hB hP 0 rfl rfl dX4_count_113 ?_
                refine lv_aload_n hx hb dX4_count_116 rfl (lv_at hl 0 rfl) ?_
                refine gf_X4_35 hB hP 0 rfl rfl dX4_count_117 ?_
                refine mx_gi (mx_runN (As := []) (rest := [.ref a_told]) hB (c_X3_set l E a_tower a_tower_order v_tower_many v_tower_day v_tower_order _ hf) sB_X3_set sV_X3_set wmn_X4_129 rfl (mx_ppV hB hP [2, 5] rfl 3 rfl rfl rfl) hl.1 rfl (Nat.le_of_ble_eq_true rfl) dX4_count_120 ⟨Nat.zero_le _, Nat.zero_le _⟩) (fun r1 hf => ?_)
                refine mx_gi (mx_runN (As := [.int r1]) (rest := []) hB (c_X1_heightOf l E a_told a_told_kind a_told_weight a_told_strength a_told_height a_told_folk a_told_mustBeAbove a_told_wind v_told_storeys v_told_pairs v_told_bears v_told_soft v_told_cellars v_told_height r1 _ hf) sB_X1_heightOf sV_X1_heightOf wmn_X4_152 rfl (mx_ppV hB hP [3, 8] rfl 1 rfl rfl rfl) hl.1 rfl (Nat.le_of_ble_eq_true rfl) dX4_count_123 ⟨Nat.zero_le _, Nat.zero_le _⟩) (fun r2 hf => ?_)
                exact hRet r2 126 ls dX4_count_126 hf
              · have hf := hf.2 c1_6
                by_cases c1_7 : x1 = 7
                · have hf := hf.1 c1_7
                  refine lv_tableIn (tgt := 127) hx hb dX4_count_1 (by rw [c1_7]; decide) (by rw [c1_7]; decide) (by rw [c1_7]; rfl) (by decide) ?_
                  refine lv_aload_n hx hb dX4_count_127 rfl (lv_at hl 0 rfl) ?_
                  refine gf_X4_19 hB hP 0 rfl rfl dX4_count_128 ?_
                  refine lv_aload_n hx hb dX4_count_131 rfl (lv_at hl 0 rfl) ?_
                  refine gf_X4_35 hB hP 0 rfl rfl dX4_count_132 ?_
                  refine mx_gi (mx_runN (As := []) (rest := [.ref a_told]) hB (c_X3_set l E a_tower a_tower_order v_tower_many v_tower_day v_tower_order _ hf) sB_X3_set sV_X3_set wmn_X4_129 rfl (mx_ppV hB hP [2, 5] rfl 3 rfl rfl rfl) hl.1 rfl (Nat.le_of_ble_eq_true rfl) dX4_count_135 ⟨Nat.zero_le _, Nat.zero_le _⟩) (fun r3 hf => ?_)
                  refine mx_gi (mx_runN (As := [.int r3]) (rest := []) hB (c_X1_loadOf l E a_told a_told_kind a_told_weight a_told_strength a_told_height a_told_folk a_told_mustBeAbove a_told_wind v_told_storeys v_told_pairs v_told_bears v_told_soft v_told_cellars v_told_weight v_told_folk r3 _ hf) sB_X1_loadOf sV_X1_loadOf wmn_X4_119 rfl (mx_ppV hB hP [3, 6, 7] rfl 1 rfl rfl rfl) hl.1 rfl (Nat.le_of_ble_eq_true rfl) dX4_count_138 ⟨Nat.zero_le _, Nat.zero_le _⟩) (fun r4 hf => ?_)
                  exact hRet r4 141 ls dX4_count_141 hf
                · have hf := hf.2 c1_7
                  by_cases c1_8 : x1 = 8
                  · have hf := hf.1 c1_8
                    refine lv_tableIn (tgt := 142) hx hb dX4_count_1 (by rw [c1_8]; decide) (by rw [c1_8]; decide) (by rw [c1_8]; rfl) (by decide) ?_
                    refine lv_aload_n hx hb dX4_count_142 rfl (lv_at hl 0 rfl) ?_
                    refine gf_X4_19 hB hP 0 rfl rfl dX4_count_143 ?_
                    refine lv_aload_n hx hb dX4_count_146 rfl (lv_at hl 0 rfl) ?_
                    refine gf_X4_35 hB hP 0 rfl rfl dX4_count_147 ?_
                    refine gf_X4_126 hB hP 2 rfl rfl dX4_count_150 ?_
                    refine mx_gi (mx_runN (As := [.int v_tower_day]) (rest := []) hB (c_X1_windOf l E a_told a_told_kind a_told_weight a_told_strength a_told_height a_told_folk a_told_mustBeAbove a_told_wind v_told_storeys v_told_pairs v_told_bears v_told_soft v_told_cellars v_told_wind v_tower_day _ hf) sB_X1_windOf sV_X1_windOf wmn_X4_190 rfl (mx_ppV hB hP [3, 4] rfl 1 rfl rfl rfl) hl.1 rfl (Nat.le_of_ble_eq_true rfl) dX4_count_153 ⟨Nat.zero_le _, Nat.zero_le _⟩) (fun r5 hf => ?_)
                    exact hRet r5 156 ls dX4_count_156 hf
                  · have hf := hf.2 c1_8
                    by_cases c1_9 : x1 = 9
                    · have hf := hf.1 c1_9
                      refine lv_tableIn (tgt := 157) hx hb dX4_count_1 (by rw [c1_9]; decide) (by rw [c1_9]; decide) (by rw [c1_9]; rfl) (by decide) ?_
                      refine lv_aload_n hx hb dX4_count_157 rfl (lv_at hl 0 rfl) ?_
                      refine gf_X4_87 hB hP 0 rfl rfl dX4_count_158 ?_
                      exact hRet v_liftsMany 161 ls dX4_count_161 hf
                    · have hf := hf.2 c1_9
                      by_cases c1_10 : x1 = 10
                      · have hf := hf.1 c1_10
                        refine lv_tableIn (tgt := 162) hx hb dX4_count_1 (by rw [c1_10]; decide) (by rw [c1_10]; decide) (by rw [c1_10]; rfl) (by decide) ?_
                        refine lv_aload_n hx hb dX4_count_162 rfl (lv_at hl 0 rfl) ?_
                        refine gf_X4_90 hB hP 0 rfl rfl dX4_count_163 ?_
                        exact hRet v_seenMany 166 ls dX4_count_166 hf
                      · have hf := hf.2 c1_10
                        by_cases c1_11 : x1 = 11
                        · have hf := hf.1 c1_11
                          refine lv_tableIn (tgt := 167) hx hb dX4_count_1 (by rw [c1_11]; decide) (by rw [c1_11]; decide) (by rw [c1_11]; rfl) (by decide) ?_
                          refine lv_aload_n hx hb dX4_count_167 rfl (lv_at hl 0 rfl) ?_
                          refine gf_X4_10 hB hP 0 rfl rfl dX4_count_168 ?_
                          refine gf_X4_63 hB hP 1 rfl rfl dX4_count_171 ?_
                          exact hRet v_text_length 174 ls dX4_count_174 hf
                        · have hf := hf.2 c1_11
                          refine lv_tableOut (tgt := 175) hx hb dX4_count_1 (mx_out 0 11 [0, 1, 2, 3, 4, 5, 6, 7, 8, 9, 10, 11] (List.forall_mem_cons.mpr ⟨c1_0, (List.forall_mem_cons.mpr ⟨c1_1, (List.forall_mem_cons.mpr ⟨c1_2, (List.forall_mem_cons.mpr ⟨c1_3, (List.forall_mem_cons.mpr ⟨c1_4, (List.forall_mem_cons.mpr ⟨c1_5, (List.forall_mem_cons.mpr ⟨c1_6, (List.forall_mem_cons.mpr ⟨c1_7, (List.forall_mem_cons.mpr ⟨c1_8, (List.forall_mem_cons.mpr ⟨c1_9, (List.forall_mem_cons.mpr ⟨c1_10, (List.forall_mem_cons.mpr ⟨c1_11, (fun _ h => absurd h List.not_mem_nil)⟩)⟩)⟩)⟩)⟩)⟩)⟩)⟩)⟩)⟩)⟩)⟩) (by decide)) (by decide) ?_
                          refine lv_bipush hx hb dX4_count_175 kc_b_m3 ?_
                          exact hRet (-3) 177 ls dX4_count_177 hf
theorem c_X4_count (l : Launch) (E : mx_E) (a_t : Nat) (a_text : Nat) (a_told : Nat) (a_reader : Nat) (a_tower : Nat) (a_kept : Nat) (a_isKept : Nat) (a_lifts : Nat) (a_seenAt : Nat) (a_seenInches : Nat) (a_ways : Nat) (a_trial : Nat) (a_text_bytes : Nat) (a_tower_order : Nat) (a_told_kind : Nat) (a_told_weight : Nat) (a_told_strength : Nat) (a_told_height : Nat) (a_told_folk : Nat) (a_told_mustBeAbove : Nat) (a_told_wind : Nat) (v_liftsMany : Int32) (v_seenMany : Int32) (v_text_length : Int32) (v_tower_many : Int32) (v_tower_day : Int32) (v_told_storeys : Int32) (v_told_pairs : Int32) (v_told_bears : Int32) (v_told_soft : Int32) (v_told_cellars : Int32) (v_told_wind : (Nat → Int32)) (v_tower_order : (Nat → Int32)) (v_told_weight : (Nat → Int32)) (v_told_folk : (Nat → Int32)) (v_told_height : (Nat → Int32)) (x1 : Int32) (post : Int32 → Prop) (hf : f_X4_count v_text_length v_seenMany v_liftsMany v_tower_day v_told_wind v_tower_many v_tower_order v_told_storeys v_told_weight v_told_folk v_told_height v_told_pairs v_told_soft v_told_bears x1 post) : Met l yX4_count (Cond.code yX4_count cX4_count 2 (some .int) :: mx_WS) rm_X4_count (va_Pc [.ref a_t, .int x1] (mx_Pp E (w_X4_count E a_t a_text a_told a_reader a_tower a_kept a_isKept a_lifts a_seenAt a_seenInches a_ways a_trial a_text_bytes a_tower_order a_told_kind a_told_weight a_told_strength a_told_height a_told_folk a_told_mustBeAbove a_told_wind v_liftsMany v_seenMany v_text_length v_tower_many v_tower_day v_told_storeys v_told_pairs v_told_bears v_told_soft v_told_cellars v_told_wind v_tower_order v_told_weight v_told_folk v_told_height))) (vp_Si post) 0 0 (fun _ => False) :=
  mx_metPi (by decide) rfl rfl (fun hB hP hRet ls hl => b_X4_count E a_t a_text a_told a_reader a_tower a_kept a_isKept a_lifts a_seenAt a_seenInches a_ways a_trial a_text_bytes a_tower_order a_told_kind a_told_weight a_told_strength a_told_height a_told_folk a_told_mustBeAbove a_told_wind v_liftsMany v_seenMany v_text_length v_tower_many v_tower_day v_told_storeys v_told_pairs v_told_bears v_told_soft v_told_cellars v_told_wind v_tower_order v_told_weight v_told_folk v_told_height x1 post hB hP hRet hf ls hl)
