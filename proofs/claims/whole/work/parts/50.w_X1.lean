def rm_X1_copyFrom : Room := { frames := 1, cells := 0, slots := 0, locals := 40 }
set_option maxHeartbeats 4000000 in
set_option maxRecDepth 100000 in
theorem b_X1_copyFrom {p : Program} {l : Launch} {e : Env} {s : State} {m : MethodId} {args : Array Value} {below : List Frame} {meth : Method} {c : Code} {Q : State → Prop} {A : Nat → Prop} (E : mx_E) (a_t : Nat) (a_kind : Nat) (a_weight : Nat) (a_strength : Nat) (a_height : Nat) (a_folk : Nat) (a_mustBeAbove : Nat) (a_wind : Nat) (a_o : Nat) (a_o_kind : Nat) (a_o_weight : Nat) (a_o_strength : Nat) (a_o_height : Nat) (a_o_folk : Nat) (a_o_mustBeAbove : Nat) (a_o_wind : Nat) (v_storeys : Int32) (v_pairs : Int32) (v_bears : Int32) (v_soft : Int32) (v_cellars : Int32) (v_o_storeys : Int32) (v_o_pairs : Int32) (v_o_bears : Int32) (v_o_soft : Int32) (v_o_cellars : Int32) (v_o_kind : (Nat → Int32)) (v_kind : (Nat → Int32)) (v_o_weight : (Nat → Int32)) (v_weight : (Nat → Int32)) (v_o_strength : (Nat → Int32)) (v_strength : (Nat → Int32)) (v_o_height : (Nat → Int32)) (v_height : (Nat → Int32)) (v_o_folk : (Nat → Int32)) (v_folk : (Nat → Int32)) (v_o_mustBeAbove : (Nat → Int32)) (v_mustBeAbove : (Nat → Int32)) (v_o_wind : (Nat → Int32)) (v_wind : (Nat → Int32))  (post : Int32 → Int32 → Int32 → Int32 → Int32 → (Nat → Int32) → (Nat → Int32) → (Nat → Int32) → (Nat → Int32) → (Nat → Int32) → (Nat → Int32) → (Nat → Int32) → Prop) (hB : mx_B p m c cX1_copyFrom 2 s args RX1 E) (hP : va_P E.1 vwCl (w_X1_copyFrom E a_t a_kind a_weight a_strength a_height a_folk a_mustBeAbove a_wind a_o a_o_kind a_o_weight a_o_strength a_o_height a_o_folk a_o_mustBeAbove a_o_wind v_storeys v_pairs v_bears v_soft v_cellars v_o_storeys v_o_pairs v_o_bears v_o_soft v_o_cellars v_o_kind v_kind v_o_weight v_weight v_o_strength v_strength v_o_height v_height v_o_folk v_folk v_o_mustBeAbove v_mustBeAbove v_o_wind v_wind) s.heap) (hD : va_D A (w_X1_copyFrom E a_t a_kind a_weight a_strength a_height a_folk a_mustBeAbove a_wind a_o a_o_kind a_o_weight a_o_strength a_o_height a_o_folk a_o_mustBeAbove a_o_wind v_storeys v_pairs v_bears v_soft v_cellars v_o_storeys v_o_pairs v_o_bears v_o_soft v_o_cellars v_o_kind v_kind v_o_weight v_weight v_o_strength v_strength v_o_height v_height v_o_folk v_folk v_o_mustBeAbove v_mustBeAbove v_o_wind v_wind)) (hA : ∀ q : Nat, s.heap.size ≤ q → A q) (hRet : ∀ (u : Int32 × Int32 × Int32 × Int32 × Int32 × (Nat → Int32) × (Nat → Int32) × (Nat → Int32) × (Nat → Int32) × (Nat → Int32) × (Nat → Int32) × (Nat → Int32)) (pc : Nat) (ls : Array Slot) (H : Heap) (locs : List Loc), decode cX1_copyFrom pc = .ok (.return_, 1) → post u.1 u.2.1 u.2.2.1 u.2.2.2.1 u.2.2.2.2.1 u.2.2.2.2.2.1 u.2.2.2.2.2.2.1 u.2.2.2.2.2.2.2.1 u.2.2.2.2.2.2.2.2.1 u.2.2.2.2.2.2.2.2.2.1 u.2.2.2.2.2.2.2.2.2.2.1 u.2.2.2.2.2.2.2.2.2.2.2 → va_P E.1 vwCl (w_X1_copyFrom E a_t a_kind a_weight a_strength a_height a_folk a_mustBeAbove a_wind a_o a_o_kind a_o_weight a_o_strength a_o_height a_o_folk a_o_mustBeAbove a_o_wind u.1 u.2.1 u.2.2.1 u.2.2.2.1 u.2.2.2.2.1 v_o_storeys v_o_pairs v_o_bears v_o_soft v_o_cellars v_o_kind u.2.2.2.2.2.1 v_o_weight u.2.2.2.2.2.2.1 v_o_strength u.2.2.2.2.2.2.2.1 v_o_height u.2.2.2.2.2.2.2.2.1 v_o_folk u.2.2.2.2.2.2.2.2.2.1 v_o_mustBeAbove u.2.2.2.2.2.2.2.2.2.2.1 v_o_wind u.2.2.2.2.2.2.2.2.2.2.2) H → va_S A s.heap H locs → W p l e rm_X1_copyFrom s m args below meth c H locs 0 0 Q (F0 m pc ls [])) (hf : f_X1_copyFrom v_o_storeys v_o_pairs v_o_bears v_o_soft v_o_cellars v_o_kind v_o_weight v_o_strength v_o_height v_o_folk v_o_mustBeAbove v_o_wind v_storeys v_pairs v_bears v_soft v_cellars v_kind v_weight v_strength v_height v_folk v_mustBeAbove v_wind post) (ls : Array Slot) (hl : lv_has ls 2 [(0, .ref a_t), (1, .ref a_o)]) : W p l e rm_X1_copyFrom s m args below meth c s.heap [] 0 0 Q (F0 m 0 ls []) := by
  have hx := hB.x
  have hb := hB.b
  have hS : va_S A s.heap s.heap [] := va_S.rf
  obtain ⟨H, locs, eH, eL⟩ : ∃ (H : Heap) (locs : List Loc), H = s.heap ∧ locs = [] := ⟨_, _, rfl, rfl⟩
  rw [← eH] at hP
  have hS : va_S A s.heap H locs := by rw [eH, eL]; exact hS
  show W p l e rm_X1_copyFrom s m args below meth c s.heap [] 0 0 Q (F0 m 0 ls [])
  rw [← eH, ← eL]
  refine lv_aload_n hx hb dX1_copyFrom_0 rfl (lv_at hl 0 rfl) ?_
  refine lv_aload_n hx hb dX1_copyFrom_1 rfl (lv_at hl 1 rfl) ?_
  refine gf_X1_36 hB hP 1 rfl rfl dX1_copyFrom_2 ?_
  refine pf_X1_36 hB hP hD hS 0 rfl (Nat.le_of_ble_eq_true rfl) dX1_copyFrom_5 (w_X1_copyFrom E a_t a_kind a_weight a_strength a_height a_folk a_mustBeAbove a_wind a_o a_o_kind a_o_weight a_o_strength a_o_height a_o_folk a_o_mustBeAbove a_o_wind v_o_storeys v_pairs v_bears v_soft v_cellars v_o_storeys v_o_pairs v_o_bears v_o_soft v_o_cellars v_o_kind v_kind v_o_weight v_weight v_o_strength v_strength v_o_height v_height v_o_folk v_folk v_o_mustBeAbove v_mustBeAbove v_o_wind v_wind) rfl (fun H locs hP hD hS => ?_)
  refine lv_aload_n hx hb dX1_copyFrom_8 rfl (lv_at hl 0 rfl) ?_
  refine lv_aload_n hx hb dX1_copyFrom_9 rfl (lv_at hl 1 rfl) ?_
  refine gf_X1_40 hB hP 1 rfl rfl dX1_copyFrom_10 ?_
  refine pf_X1_40 hB hP hD hS 0 rfl (Nat.le_of_ble_eq_true rfl) dX1_copyFrom_13 (w_X1_copyFrom E a_t a_kind a_weight a_strength a_height a_folk a_mustBeAbove a_wind a_o a_o_kind a_o_weight a_o_strength a_o_height a_o_folk a_o_mustBeAbove a_o_wind v_o_storeys v_o_pairs v_bears v_soft v_cellars v_o_storeys v_o_pairs v_o_bears v_o_soft v_o_cellars v_o_kind v_kind v_o_weight v_weight v_o_strength v_strength v_o_height v_height v_o_folk v_folk v_o_mustBeAbove v_mustBeAbove v_o_wind v_wind) rfl (fun H locs hP hD hS => ?_)
  refine lv_aload_n hx hb dX1_copyFrom_16 rfl (lv_at hl 0 rfl) ?_
  refine lv_aload_n hx hb dX1_copyFrom_17 rfl (lv_at hl 1 rfl) ?_
  refine gf_X1_43 hB hP 1 rfl rfl dX1_copyFrom_18 ?_
  refine pf_X1_43 hB hP hD hS 0 rfl (Nat.le_of_ble_eq_true rfl) dX1_copyFrom_21 (w_X1_copyFrom E a_t a_kind a_weight a_strength a_height a_folk a_mustBeAbove a_wind a_o a_o_kind a_o_weight a_o_strength a_o_height a_o_folk a_o_mustBeAbove a_o_wind v_o_storeys v_o_pairs v_o_bears v_soft v_cellars v_o_storeys v_o_pairs v_o_bears v_o_soft v_o_cellars v_o_kind v_kind v_o_weight v_weight v_o_strength v_strength v_o_height v_height v_o_folk v_folk v_o_mustBeAbove v_mustBeAbove v_o_wind v_wind) rfl (fun H locs hP hD hS => ?_)
  refine lv_aload_n hx hb dX1_copyFrom_24 rfl (lv_at hl 0 rfl) ?_
  refine lv_aload_n hx hb dX1_copyFrom_25 rfl (lv_at hl 1 rfl) ?_
  refine gf_X1_46 hB hP 1 rfl rfl dX1_copyFrom_26 ?_
  refine pf_X1_46 hB hP hD hS 0 rfl (Nat.le_of_ble_eq_true rfl) dX1_copyFrom_29 (w_X1_copyFrom E a_t a_kind a_weight a_strength a_height a_folk a_mustBeAbove a_wind a_o a_o_kind a_o_weight a_o_strength a_o_height a_o_folk a_o_mustBeAbove a_o_wind v_o_storeys v_o_pairs v_o_bears v_o_soft v_cellars v_o_storeys v_o_pairs v_o_bears v_o_soft v_o_cellars v_o_kind v_kind v_o_weight v_weight v_o_strength v_strength v_o_height v_height v_o_folk v_folk v_o_mustBeAbove v_mustBeAbove v_o_wind v_wind) rfl (fun H locs hP hD hS => ?_)
  refine lv_aload_n hx hb dX1_copyFrom_32 rfl (lv_at hl 0 rfl) ?_
  refine lv_aload_n hx hb dX1_copyFrom_33 rfl (lv_at hl 1 rfl) ?_
  refine gf_X1_49 hB hP 1 rfl rfl dX1_copyFrom_34 ?_
  refine pf_X1_49 hB hP hD hS 0 rfl (Nat.le_of_ble_eq_true rfl) dX1_copyFrom_37 (w_X1_copyFrom E a_t a_kind a_weight a_strength a_height a_folk a_mustBeAbove a_wind a_o a_o_kind a_o_weight a_o_strength a_o_height a_o_folk a_o_mustBeAbove a_o_wind v_o_storeys v_o_pairs v_o_bears v_o_soft v_o_cellars v_o_storeys v_o_pairs v_o_bears v_o_soft v_o_cellars v_o_kind v_kind v_o_weight v_weight v_o_strength v_strength v_o_height v_height v_o_folk v_folk v_o_mustBeAbove v_mustBeAbove v_o_wind v_wind) rfl (fun H locs hP hD hS => ?_)
  refine lv_aload_n hx hb dX1_copyFrom_40 rfl (lv_at hl 1 rfl) ?_
  refine gf_X1_9 hB hP 1 rfl rfl dX1_copyFrom_41 ?_
  refine lv_iconst hx hb dX1_copyFrom_44 kc_i_0 ?_
  refine lv_aload_n hx hb dX1_copyFrom_45 rfl (lv_at hl 0 rfl) ?_
  refine gf_X1_9 hB hP 0 rfl rfl dX1_copyFrom_46 ?_
  refine lv_iconst hx hb dX1_copyFrom_49 kc_i_0 ?_
  refine lv_bipush hx hb dX1_copyFrom_50 kc_b_8 ?_
  refine va_copyi (ty := .int) hx hb (by rw [hB.l, hl.1]) hB.o (hB.w wml_X1_56) (hB.w wnat_ac) (hB.w wst_ac) (hB.w win_sys) hB.K hP hD hS 2 3 0 0 rfl rfl rfl rfl rfl (by decide) (by decide) (by decide) (by decide) (by decide) (fun _ _ => rfl) (by decide) (Nat.le_of_ble_eq_true rfl) dX1_copyFrom_52 (fun H locs hP hD hS => ?_)
  have hP : va_P E.1 vwCl (w_X1_copyFrom E a_t a_kind a_weight a_strength a_height a_folk a_mustBeAbove a_wind a_o a_o_kind a_o_weight a_o_strength a_o_height a_o_folk a_o_mustBeAbove a_o_wind v_o_storeys v_o_pairs v_o_bears v_o_soft v_o_cellars v_o_storeys v_o_pairs v_o_bears v_o_soft v_o_cellars v_o_kind (va_cpy v_o_kind v_kind (0 : Int32).toNatClampNeg (0 : Int32).toNatClampNeg (8 : Int32).toNatClampNeg) v_o_weight v_weight v_o_strength v_strength v_o_height v_height v_o_folk v_folk v_o_mustBeAbove v_mustBeAbove v_o_wind v_wind) H := hP
  have hD : va_D A (w_X1_copyFrom E a_t a_kind a_weight a_strength a_height a_folk a_mustBeAbove a_wind a_o a_o_kind a_o_weight a_o_strength a_o_height a_o_folk a_o_mustBeAbove a_o_wind v_o_storeys v_o_pairs v_o_bears v_o_soft v_o_cellars v_o_storeys v_o_pairs v_o_bears v_o_soft v_o_cellars v_o_kind (va_cpy v_o_kind v_kind (0 : Int32).toNatClampNeg (0 : Int32).toNatClampNeg (8 : Int32).toNatClampNeg) v_o_weight v_weight v_o_strength v_strength v_o_height v_height v_o_folk v_folk v_o_mustBeAbove v_mustBeAbove v_o_wind v_wind) := hD
  refine lv_aload_n hx hb dX1_copyFrom_55 rfl (lv_at hl 1 rfl) ?_
  refine gf_X1_15 hB hP 1 rfl rfl dX1_copyFrom_56 ?_
  refine lv_iconst hx hb dX1_copyFrom_59 kc_i_0 ?_
  refine lv_aload_n hx hb dX1_copyFrom_60 rfl (lv_at hl 0 rfl) ?_
  refine gf_X1_15 hB hP 0 rfl rfl dX1_copyFrom_61 ?_
  refine lv_iconst hx hb dX1_copyFrom_64 kc_i_0 ?_
  refine lv_bipush hx hb dX1_copyFrom_65 kc_b_8 ?_
  refine va_copyi (ty := .int) hx hb (by rw [hB.l, hl.1]) hB.o (hB.w wml_X1_56) (hB.w wnat_ac) (hB.w wst_ac) (hB.w win_sys) hB.K hP hD hS 4 5 0 0 rfl rfl rfl rfl rfl (by decide) (by decide) (by decide) (by decide) (by decide) (fun _ _ => rfl) (by decide) (Nat.le_of_ble_eq_true rfl) dX1_copyFrom_67 (fun H locs hP hD hS => ?_)
  have hP : va_P E.1 vwCl (w_X1_copyFrom E a_t a_kind a_weight a_strength a_height a_folk a_mustBeAbove a_wind a_o a_o_kind a_o_weight a_o_strength a_o_height a_o_folk a_o_mustBeAbove a_o_wind v_o_storeys v_o_pairs v_o_bears v_o_soft v_o_cellars v_o_storeys v_o_pairs v_o_bears v_o_soft v_o_cellars v_o_kind (va_cpy v_o_kind v_kind (0 : Int32).toNatClampNeg (0 : Int32).toNatClampNeg (8 : Int32).toNatClampNeg) v_o_weight (va_cpy v_o_weight v_weight (0 : Int32).toNatClampNeg (0 : Int32).toNatClampNeg (8 : Int32).toNatClampNeg) v_o_strength v_strength v_o_height v_height v_o_folk v_folk v_o_mustBeAbove v_mustBeAbove v_o_wind v_wind) H := hP
  have hD : va_D A (w_X1_copyFrom E a_t a_kind a_weight a_strength a_height a_folk a_mustBeAbove a_wind a_o a_o_kind a_o_weight a_o_strength a_o_height a_o_folk a_o_mustBeAbove a_o_wind v_o_storeys v_o_pairs v_o_bears v_o_soft v_o_cellars v_o_storeys v_o_pairs v_o_bears v_o_soft v_o_cellars v_o_kind (va_cpy v_o_kind v_kind (0 : Int32).toNatClampNeg (0 : Int32).toNatClampNeg (8 : Int32).toNatClampNeg) v_o_weight (va_cpy v_o_weight v_weight (0 : Int32).toNatClampNeg (0 : Int32).toNatClampNeg (8 : Int32).toNatClampNeg) v_o_strength v_strength v_o_height v_height v_o_folk v_folk v_o_mustBeAbove v_mustBeAbove v_o_wind v_wind) := hD
  refine lv_aload_n hx hb dX1_copyFrom_70 rfl (lv_at hl 1 rfl) ?_
  refine gf_X1_18 hB hP 1 rfl rfl dX1_copyFrom_71 ?_
  refine lv_iconst hx hb dX1_copyFrom_74 kc_i_0 ?_
  refine lv_aload_n hx hb dX1_copyFrom_75 rfl (lv_at hl 0 rfl) ?_
  refine gf_X1_18 hB hP 0 rfl rfl dX1_copyFrom_76 ?_
  refine lv_iconst hx hb dX1_copyFrom_79 kc_i_0 ?_
  refine lv_bipush hx hb dX1_copyFrom_80 kc_b_8 ?_
  refine va_copyi (ty := .int) hx hb (by rw [hB.l, hl.1]) hB.o (hB.w wml_X1_56) (hB.w wnat_ac) (hB.w wst_ac) (hB.w win_sys) hB.K hP hD hS 6 7 0 0 rfl rfl rfl rfl rfl (by decide) (by decide) (by decide) (by decide) (by decide) (fun _ _ => rfl) (by decide) (Nat.le_of_ble_eq_true rfl) dX1_copyFrom_82 (fun H locs hP hD hS => ?_)
  have hP : va_P E.1 vwCl (w_X1_copyFrom E a_t a_kind a_weight a_strength a_height a_folk a_mustBeAbove a_wind a_o a_o_kind a_o_weight a_o_strength a_o_height a_o_folk a_o_mustBeAbove a_o_wind v_o_storeys v_o_pairs v_o_bears v_o_soft v_o_cellars v_o_storeys v_o_pairs v_o_bears v_o_soft v_o_cellars v_o_kind (va_cpy v_o_kind v_kind (0 : Int32).toNatClampNeg (0 : Int32).toNatClampNeg (8 : Int32).toNatClampNeg) v_o_weight (va_cpy v_o_weight v_weight (0 : Int32).toNatClampNeg (0 : Int32).toNatClampNeg (8 : Int32).toNatClampNeg) v_o_strength (va_cpy v_o_strength v_strength (0 : Int32).toNatClampNeg (0 : Int32).toNatClampNeg (8 : Int32).toNatClampNeg) v_o_height v_height v_o_folk v_folk v_o_mustBeAbove v_mustBeAbove v_o_wind v_wind) H := hP
  have hD : va_D A (w_X1_copyFrom E a_t a_kind a_weight a_strength a_height a_folk a_mustBeAbove a_wind a_o a_o_kind a_o_weight a_o_strength a_o_height a_o_folk a_o_mustBeAbove a_o_wind v_o_storeys v_o_pairs v_o_bears v_o_soft v_o_cellars v_o_storeys v_o_pairs v_o_bears v_o_soft v_o_cellars v_o_kind (va_cpy v_o_kind v_kind (0 : Int32).toNatClampNeg (0 : Int32).toNatClampNeg (8 : Int32).toNatClampNeg) v_o_weight (va_cpy v_o_weight v_weight (0 : Int32).toNatClampNeg (0 : Int32).toNatClampNeg (8 : Int32).toNatClampNeg) v_o_strength (va_cpy v_o_strength v_strength (0 : Int32).toNatClampNeg (0 : Int32).toNatClampNeg (8 : Int32).toNatClampNeg) v_o_height v_height v_o_folk v_folk v_o_mustBeAbove v_mustBeAbove v_o_wind v_wind) := hD
  refine lv_aload_n hx hb dX1_copyFrom_85 rfl (lv_at hl 1 rfl) ?_
  refine gf_X1_21 hB hP 1 rfl rfl dX1_copyFrom_86 ?_
  refine lv_iconst hx hb dX1_copyFrom_89 kc_i_0 ?_
  refine lv_aload_n hx hb dX1_copyFrom_90 rfl (lv_at hl 0 rfl) ?_
  refine gf_X1_21 hB hP 0 rfl rfl dX1_copyFrom_91 ?_
  refine lv_iconst hx hb dX1_copyFrom_94 kc_i_0 ?_
  refine lv_bipush hx hb dX1_copyFrom_95 kc_b_8 ?_
  refine va_copyi (ty := .int) hx hb (by rw [hB.l, hl.1]) hB.o (hB.w wml_X1_56) (hB.w wnat_ac) (hB.w wst_ac) (hB.w win_sys) hB.K hP hD hS 8 9 0 0 rfl rfl rfl rfl rfl (by decide) (by decide) (by decide) (by decide) (by decide) (fun _ _ => rfl) (by decide) (Nat.le_of_ble_eq_true rfl) dX1_copyFrom_97 (fun H locs hP hD hS => ?_)
  have hP : va_P E.1 vwCl (w_X1_copyFrom E a_t a_kind a_weight a_strength a_height a_folk a_mustBeAbove a_wind a_o a_o_kind a_o_weight a_o_strength a_o_height a_o_folk a_o_mustBeAbove a_o_wind v_o_storeys v_o_pairs v_o_bears v_o_soft v_o_cellars v_o_storeys v_o_pairs v_o_bears v_o_soft v_o_cellars v_o_kind (va_cpy v_o_kind v_kind (0 : Int32).toNatClampNeg (0 : Int32).toNatClampNeg (8 : Int32).toNatClampNeg) v_o_weight (va_cpy v_o_weight v_weight (0 : Int32).toNatClampNeg (0 : Int32).toNatClampNeg (8 : Int32).toNatClampNeg) v_o_strength (va_cpy v_o_strength v_strength (0 : Int32).toNatClampNeg (0 : Int32).toNatClampNeg (8 : Int32).toNatClampNeg) v_o_height (va_cpy v_o_height v_height (0 : Int32).toNatClampNeg (0 : Int32).toNatClampNeg (8 : Int32).toNatClampNeg) v_o_folk v_folk v_o_mustBeAbove v_mustBeAbove v_o_wind v_wind) H := hP
  have hD : va_D A (w_X1_copyFrom E a_t a_kind a_weight a_strength a_height a_folk a_mustBeAbove a_wind a_o a_o_kind a_o_weight a_o_strength a_o_height a_o_folk a_o_mustBeAbove a_o_wind v_o_storeys v_o_pairs v_o_bears v_o_soft v_o_cellars v_o_storeys v_o_pairs v_o_bears v_o_soft v_o_cellars v_o_kind (va_cpy v_o_kind v_kind (0 : Int32).toNatClampNeg (0 : Int32).toNatClampNeg (8 : Int32).toNatClampNeg) v_o_weight (va_cpy v_o_weight v_weight (0 : Int32).toNatClampNeg (0 : Int32).toNatClampNeg (8 : Int32).toNatClampNeg) v_o_strength (va_cpy v_o_strength v_strength (0 : Int32).toNatClampNeg (0 : Int32).toNatClampNeg (8 : Int32).toNatClampNeg) v_o_height (va_cpy v_o_height v_height (0 : Int32).toNatClampNeg (0 : Int32).toNatClampNeg (8 : Int32).toNatClampNeg) v_o_folk v_folk v_o_mustBeAbove v_mustBeAbove v_o_wind v_wind) := hD
  refine lv_aload_n hx hb dX1_copyFrom_100 rfl (lv_at hl 1 rfl) ?_
  refine gf_X1_24 hB hP 1 rfl rfl dX1_copyFrom_101 ?_
  refine lv_iconst hx hb dX1_copyFrom_104 kc_i_0 ?_
  refine lv_aload_n hx hb dX1_copyFrom_105 rfl (lv_at hl 0 rfl) ?_
  refine gf_X1_24 hB hP 0 rfl rfl dX1_copyFrom_106 ?_
  refine lv_iconst hx hb dX1_copyFrom_109 kc_i_0 ?_
  refine lv_bipush hx hb dX1_copyFrom_110 kc_b_8 ?_
  refine va_copyi (ty := .int) hx hb (by rw [hB.l, hl.1]) hB.o (hB.w wml_X1_56) (hB.w wnat_ac) (hB.w wst_ac) (hB.w win_sys) hB.K hP hD hS 10 11 0 0 rfl rfl rfl rfl rfl (by decide) (by decide) (by decide) (by decide) (by decide) (fun _ _ => rfl) (by decide) (Nat.le_of_ble_eq_true rfl) dX1_copyFrom_112 (fun H locs hP hD hS => ?_)
  have hP : va_P E.1 vwCl (w_X1_copyFrom E a_t a_kind a_weight a_strength a_height a_folk a_mustBeAbove a_wind a_o a_o_kind a_o_weight a_o_strength a_o_height a_o_folk a_o_mustBeAbove a_o_wind v_o_storeys v_o_pairs v_o_bears v_o_soft v_o_cellars v_o_storeys v_o_pairs v_o_bears v_o_soft v_o_cellars v_o_kind (va_cpy v_o_kind v_kind (0 : Int32).toNatClampNeg (0 : Int32).toNatClampNeg (8 : Int32).toNatClampNeg) v_o_weight (va_cpy v_o_weight v_weight (0 : Int32).toNatClampNeg (0 : Int32).toNatClampNeg (8 : Int32).toNatClampNeg) v_o_strength (va_cpy v_o_strength v_strength (0 : Int32).toNatClampNeg (0 : Int32).toNatClampNeg (8 : Int32).toNatClampNeg) v_o_height (va_cpy v_o_height v_height (0 : Int32).toNatClampNeg (0 : Int32).toNatClampNeg (8 : Int32).toNatClampNeg) v_o_folk (va_cpy v_o_folk v_folk (0 : Int32).toNatClampNeg (0 : Int32).toNatClampNeg (8 : Int32).toNatClampNeg) v_o_mustBeAbove v_mustBeAbove v_o_wind v_wind) H := hP
  have hD : va_D A (w_X1_copyFrom E a_t a_kind a_weight a_strength a_height a_folk a_mustBeAbove a_wind a_o a_o_kind a_o_weight a_o_strength a_o_height a_o_folk a_o_mustBeAbove a_o_wind v_o_storeys v_o_pairs v_o_bears v_o_soft v_o_cellars v_o_storeys v_o_pairs v_o_bears v_o_soft v_o_cellars v_o_kind (va_cpy v_o_kind v_kind (0 : Int32).toNatClampNeg (0 : Int32).toNatClampNeg (8 : Int32).toNatClampNeg) v_o_weight (va_cpy v_o_weight v_weight (0 : Int32).toNatClampNeg (0 : Int32).toNatClampNeg (8 : Int32).toNatClampNeg) v_o_strength (va_cpy v_o_strength v_strength (0 : Int32).toNatClampNeg (0 : Int32).toNatClampNeg (8 : Int32).toNatClampNeg) v_o_height (va_cpy v_o_height v_height (0 : Int32).toNatClampNeg (0 : Int32).toNatClampNeg (8 : Int32).toNatClampNeg) v_o_folk (va_cpy v_o_folk v_folk (0 : Int32).toNatClampNeg (0 : Int32).toNatClampNeg (8 : Int32).toNatClampNeg) v_o_mustBeAbove v_mustBeAbove v_o_wind v_wind) := hD
  refine lv_aload_n hx hb dX1_copyFrom_115 rfl (lv_at hl 1 rfl) ?_
  refine gf_X1_27 hB hP 1 rfl rfl dX1_copyFrom_116 ?_
  refine lv_iconst hx hb dX1_copyFrom_119 kc_i_0 ?_
  refine lv_aload_n hx hb dX1_copyFrom_120 rfl (lv_at hl 0 rfl) ?_
  refine gf_X1_27 hB hP 0 rfl rfl dX1_copyFrom_121 ?_
  refine lv_iconst hx hb dX1_copyFrom_124 kc_i_0 ?_
  refine lv_bipush hx hb dX1_copyFrom_125 kc_b_8 ?_
  refine va_copyi (ty := .int) hx hb (by rw [hB.l, hl.1]) hB.o (hB.w wml_X1_56) (hB.w wnat_ac) (hB.w wst_ac) (hB.w win_sys) hB.K hP hD hS 12 13 0 0 rfl rfl rfl rfl rfl (by decide) (by decide) (by decide) (by decide) (by decide) (fun _ _ => rfl) (by decide) (Nat.le_of_ble_eq_true rfl) dX1_copyFrom_127 (fun H locs hP hD hS => ?_)
  have hP : va_P E.1 vwCl (w_X1_copyFrom E a_t a_kind a_weight a_strength a_height a_folk a_mustBeAbove a_wind a_o a_o_kind a_o_weight a_o_strength a_o_height a_o_folk a_o_mustBeAbove a_o_wind v_o_storeys v_o_pairs v_o_bears v_o_soft v_o_cellars v_o_storeys v_o_pairs v_o_bears v_o_soft v_o_cellars v_o_kind (va_cpy v_o_kind v_kind (0 : Int32).toNatClampNeg (0 : Int32).toNatClampNeg (8 : Int32).toNatClampNeg) v_o_weight (va_cpy v_o_weight v_weight (0 : Int32).toNatClampNeg (0 : Int32).toNatClampNeg (8 : Int32).toNatClampNeg) v_o_strength (va_cpy v_o_strength v_strength (0 : Int32).toNatClampNeg (0 : Int32).toNatClampNeg (8 : Int32).toNatClampNeg) v_o_height (va_cpy v_o_height v_height (0 : Int32).toNatClampNeg (0 : Int32).toNatClampNeg (8 : Int32).toNatClampNeg) v_o_folk (va_cpy v_o_folk v_folk (0 : Int32).toNatClampNeg (0 : Int32).toNatClampNeg (8 : Int32).toNatClampNeg) v_o_mustBeAbove (va_cpy v_o_mustBeAbove v_mustBeAbove (0 : Int32).toNatClampNeg (0 : Int32).toNatClampNeg (8 : Int32).toNatClampNeg) v_o_wind v_wind) H := hP
  have hD : va_D A (w_X1_copyFrom E a_t a_kind a_weight a_strength a_height a_folk a_mustBeAbove a_wind a_o a_o_kind a_o_weight a_o_strength a_o_height a_o_folk a_o_mustBeAbove a_o_wind v_o_storeys v_o_pairs v_o_bears v_o_soft v_o_cellars v_o_storeys v_o_pairs v_o_bears v_o_soft v_o_cellars v_o_kind (va_cpy v_o_kind v_kind (0 : Int32).toNatClampNeg (0 : Int32).toNatClampNeg (8 : Int32).toNatClampNeg) v_o_weight (va_cpy v_o_weight v_weight (0 : Int32).toNatClampNeg (0 : Int32).toNatClampNeg (8 : Int32).toNatClampNeg) v_o_strength (va_cpy v_o_strength v_strength (0 : Int32).toNatClampNeg (0 : Int32).toNatClampNeg (8 : Int32).toNatClampNeg) v_o_height (va_cpy v_o_height v_height (0 : Int32).toNatClampNeg (0 : Int32).toNatClampNeg (8 : Int32).toNatClampNeg) v_o_folk (va_cpy v_o_folk v_folk (0 : Int32).toNatClampNeg (0 : Int32).toNatClampNeg (8 : Int32).toNatClampNeg) v_o_mustBeAbove (va_cpy v_o_mustBeAbove v_mustBeAbove (0 : Int32).toNatClampNeg (0 : Int32).toNatClampNeg (8 : Int32).toNatClampNeg) v_o_wind v_wind) := hD
  refine lv_aload_n hx hb dX1_copyFrom_130 rfl (lv_at hl 1 rfl) ?_
  refine gf_X1_30 hB hP 1 rfl rfl dX1_copyFrom_131 ?_
  refine lv_iconst hx hb dX1_copyFrom_134 kc_i_0 ?_
  refine lv_aload_n hx hb dX1_copyFrom_135 rfl (lv_at hl 0 rfl) ?_
  refine gf_X1_30 hB hP 0 rfl rfl dX1_copyFrom_136 ?_
  refine lv_iconst hx hb dX1_copyFrom_139 kc_i_0 ?_
  refine lv_bipush hx hb dX1_copyFrom_140 kc_b_40 ?_
  refine va_copyi (ty := .int) hx hb (by rw [hB.l, hl.1]) hB.o (hB.w wml_X1_56) (hB.w wnat_ac) (hB.w wst_ac) (hB.w win_sys) hB.K hP hD hS 14 15 0 0 rfl rfl rfl rfl rfl (by decide) (by decide) (by decide) (by decide) (by decide) (fun _ _ => rfl) (by decide) (Nat.le_of_ble_eq_true rfl) dX1_copyFrom_142 (fun H locs hP hD hS => ?_)
  have hP : va_P E.1 vwCl (w_X1_copyFrom E a_t a_kind a_weight a_strength a_height a_folk a_mustBeAbove a_wind a_o a_o_kind a_o_weight a_o_strength a_o_height a_o_folk a_o_mustBeAbove a_o_wind v_o_storeys v_o_pairs v_o_bears v_o_soft v_o_cellars v_o_storeys v_o_pairs v_o_bears v_o_soft v_o_cellars v_o_kind (va_cpy v_o_kind v_kind (0 : Int32).toNatClampNeg (0 : Int32).toNatClampNeg (8 : Int32).toNatClampNeg) v_o_weight (va_cpy v_o_weight v_weight (0 : Int32).toNatClampNeg (0 : Int32).toNatClampNeg (8 : Int32).toNatClampNeg) v_o_strength (va_cpy v_o_strength v_strength (0 : Int32).toNatClampNeg (0 : Int32).toNatClampNeg (8 : Int32).toNatClampNeg) v_o_height (va_cpy v_o_height v_height (0 : Int32).toNatClampNeg (0 : Int32).toNatClampNeg (8 : Int32).toNatClampNeg) v_o_folk (va_cpy v_o_folk v_folk (0 : Int32).toNatClampNeg (0 : Int32).toNatClampNeg (8 : Int32).toNatClampNeg) v_o_mustBeAbove (va_cpy v_o_mustBeAbove v_mustBeAbove (0 : Int32).toNatClampNeg (0 : Int32).toNatClampNeg (8 : Int32).toNatClampNeg) v_o_wind (va_cpy v_o_wind v_wind (0 : Int32).toNatClampNeg (0 : Int32).toNatClampNeg (40 : Int32).toNatClampNeg)) H := hP
  have hD : va_D A (w_X1_copyFrom E a_t a_kind a_weight a_strength a_height a_folk a_mustBeAbove a_wind a_o a_o_kind a_o_weight a_o_strength a_o_height a_o_folk a_o_mustBeAbove a_o_wind v_o_storeys v_o_pairs v_o_bears v_o_soft v_o_cellars v_o_storeys v_o_pairs v_o_bears v_o_soft v_o_cellars v_o_kind (va_cpy v_o_kind v_kind (0 : Int32).toNatClampNeg (0 : Int32).toNatClampNeg (8 : Int32).toNatClampNeg) v_o_weight (va_cpy v_o_weight v_weight (0 : Int32).toNatClampNeg (0 : Int32).toNatClampNeg (8 : Int32).toNatClampNeg) v_o_strength (va_cpy v_o_strength v_strength (0 : Int32).toNatClampNeg (0 : Int32).toNatClampNeg (8 : Int32).toNatClampNeg) v_o_height (va_cpy v_o_height v_height (0 : Int32).toNatClampNeg (0 : Int32).toNatClampNeg (8 : Int32).toNatClampNeg) v_o_folk (va_cpy v_o_folk v_folk (0 : Int32).toNatClampNeg (0 : Int32).toNatClampNeg (8 : Int32).toNatClampNeg) v_o_mustBeAbove (va_cpy v_o_mustBeAbove v_mustBeAbove (0 : Int32).toNatClampNeg (0 : Int32).toNatClampNeg (8 : Int32).toNatClampNeg) v_o_wind (va_cpy v_o_wind v_wind (0 : Int32).toNatClampNeg (0 : Int32).toNatClampNeg (40 : Int32).toNatClampNeg)) := hD
  exact hRet (v_o_storeys, v_o_pairs, v_o_bears, v_o_soft, v_o_cellars, va_cpy v_o_kind v_kind (0 : Int32).toNatClampNeg (0 : Int32).toNatClampNeg (8 : Int32).toNatClampNeg, va_cpy v_o_weight v_weight (0 : Int32).toNatClampNeg (0 : Int32).toNatClampNeg (8 : Int32).toNatClampNeg, va_cpy v_o_strength v_strength (0 : Int32).toNatClampNeg (0 : Int32).toNatClampNeg (8 : Int32).toNatClampNeg, va_cpy v_o_height v_height (0 : Int32).toNatClampNeg (0 : Int32).toNatClampNeg (8 : Int32).toNatClampNeg, va_cpy v_o_folk v_folk (0 : Int32).toNatClampNeg (0 : Int32).toNatClampNeg (8 : Int32).toNatClampNeg, va_cpy v_o_mustBeAbove v_mustBeAbove (0 : Int32).toNatClampNeg (0 : Int32).toNatClampNeg (8 : Int32).toNatClampNeg, va_cpy v_o_wind v_wind (0 : Int32).toNatClampNeg (0 : Int32).toNatClampNeg (40 : Int32).toNatClampNeg) 145 ls H locs dX1_copyFrom_145 hf hP hS
theorem c_X1_copyFrom (l : Launch) (E : mx_E) (a_t : Nat) (a_kind : Nat) (a_weight : Nat) (a_strength : Nat) (a_height : Nat) (a_folk : Nat) (a_mustBeAbove : Nat) (a_wind : Nat) (a_o : Nat) (a_o_kind : Nat) (a_o_weight : Nat) (a_o_strength : Nat) (a_o_height : Nat) (a_o_folk : Nat) (a_o_mustBeAbove : Nat) (a_o_wind : Nat) (v_storeys : Int32) (v_pairs : Int32) (v_bears : Int32) (v_soft : Int32) (v_cellars : Int32) (v_o_storeys : Int32) (v_o_pairs : Int32) (v_o_bears : Int32) (v_o_soft : Int32) (v_o_cellars : Int32) (v_o_kind : (Nat → Int32)) (v_kind : (Nat → Int32)) (v_o_weight : (Nat → Int32)) (v_weight : (Nat → Int32)) (v_o_strength : (Nat → Int32)) (v_strength : (Nat → Int32)) (v_o_height : (Nat → Int32)) (v_height : (Nat → Int32)) (v_o_folk : (Nat → Int32)) (v_folk : (Nat → Int32)) (v_o_mustBeAbove : (Nat → Int32)) (v_mustBeAbove : (Nat → Int32)) (v_o_wind : (Nat → Int32)) (v_wind : (Nat → Int32)) (sz : Nat)  (post : Int32 → Int32 → Int32 → Int32 → Int32 → (Nat → Int32) → (Nat → Int32) → (Nat → Int32) → (Nat → Int32) → (Nat → Int32) → (Nat → Int32) → (Nat → Int32) → Prop) (hf : f_X1_copyFrom v_o_storeys v_o_pairs v_o_bears v_o_soft v_o_cellars v_o_kind v_o_weight v_o_strength v_o_height v_o_folk v_o_mustBeAbove v_o_wind v_storeys v_pairs v_bears v_soft v_cellars v_kind v_weight v_strength v_height v_folk v_mustBeAbove v_wind post) : Met l yX1_copyFrom (Cond.code yX1_copyFrom cX1_copyFrom 2 none :: mx_WS) rm_X1_copyFrom (va_Pc [.ref a_t, .ref a_o] (mx_Pw E (w_X1_copyFrom E a_t a_kind a_weight a_strength a_height a_folk a_mustBeAbove a_wind a_o a_o_kind a_o_weight a_o_strength a_o_height a_o_folk a_o_mustBeAbove a_o_wind v_storeys v_pairs v_bears v_soft v_cellars v_o_storeys v_o_pairs v_o_bears v_o_soft v_o_cellars v_o_kind v_kind v_o_weight v_weight v_o_strength v_strength v_o_height v_height v_o_folk v_folk v_o_mustBeAbove v_mustBeAbove v_o_wind v_wind) sz)) (va_Qv (fun (u : Int32 × Int32 × Int32 × Int32 × Int32 × (Nat → Int32) × (Nat → Int32) × (Nat → Int32) × (Nat → Int32) × (Nat → Int32) × (Nat → Int32) × (Nat → Int32)) => post u.1 u.2.1 u.2.2.1 u.2.2.2.1 u.2.2.2.2.1 u.2.2.2.2.2.1 u.2.2.2.2.2.2.1 u.2.2.2.2.2.2.2.1 u.2.2.2.2.2.2.2.2.1 u.2.2.2.2.2.2.2.2.2.1 u.2.2.2.2.2.2.2.2.2.2.1 u.2.2.2.2.2.2.2.2.2.2.2) (fun u t => va_P E.1 vwCl (w_X1_copyFrom E a_t a_kind a_weight a_strength a_height a_folk a_mustBeAbove a_wind a_o a_o_kind a_o_weight a_o_strength a_o_height a_o_folk a_o_mustBeAbove a_o_wind u.1 u.2.1 u.2.2.1 u.2.2.2.1 u.2.2.2.2.1 v_o_storeys v_o_pairs v_o_bears v_o_soft v_o_cellars v_o_kind u.2.2.2.2.2.1 v_o_weight u.2.2.2.2.2.2.1 v_o_strength u.2.2.2.2.2.2.2.1 v_o_height u.2.2.2.2.2.2.2.2.1 v_o_folk u.2.2.2.2.2.2.2.2.2.1 v_o_mustBeAbove u.2.2.2.2.2.2.2.2.2.2.1 v_o_wind u.2.2.2.2.2.2.2.2.2.2.2) t.heap) (va_A (w_X1_copyFrom E a_t a_kind a_weight a_strength a_height a_folk a_mustBeAbove a_wind a_o a_o_kind a_o_weight a_o_strength a_o_height a_o_folk a_o_mustBeAbove a_o_wind v_storeys v_pairs v_bears v_soft v_cellars v_o_storeys v_o_pairs v_o_bears v_o_soft v_o_cellars v_o_kind v_kind v_o_weight v_weight v_o_strength v_strength v_o_height v_height v_o_folk v_folk v_o_mustBeAbove v_mustBeAbove v_o_wind v_wind) sz)) 0 0 (va_A (w_X1_copyFrom E a_t a_kind a_weight a_strength a_height a_folk a_mustBeAbove a_wind a_o a_o_kind a_o_weight a_o_strength a_o_height a_o_folk a_o_mustBeAbove a_o_wind v_storeys v_pairs v_bears v_soft v_cellars v_o_storeys v_o_pairs v_o_bears v_o_soft v_o_cellars v_o_kind v_kind v_o_weight v_weight v_o_strength v_strength v_o_height v_height v_o_folk v_folk v_o_mustBeAbove v_mustBeAbove v_o_wind v_wind) sz) :=
  mx_metWv (by decide) rfl rfl (fun hB hP hD hA hRet ls hl => b_X1_copyFrom E a_t a_kind a_weight a_strength a_height a_folk a_mustBeAbove a_wind a_o a_o_kind a_o_weight a_o_strength a_o_height a_o_folk a_o_mustBeAbove a_o_wind v_storeys v_pairs v_bears v_soft v_cellars v_o_storeys v_o_pairs v_o_bears v_o_soft v_o_cellars v_o_kind v_kind v_o_weight v_weight v_o_strength v_strength v_o_height v_height v_o_folk v_folk v_o_mustBeAbove v_mustBeAbove v_o_wind v_wind  post hB hP hD hA hRet hf ls hl)
def rm_X1_tellStorey : Room := { frames := 0, cells := 0, slots := 0, locals := 0 }
set_option maxHeartbeats 4000000 in
set_option maxRecDepth 100000 in
theorem b_X1_tellStorey {p : Program} {l : Launch} {e : Env} {s : State} {m : MethodId} {args : Array Value} {below : List Frame} {meth : Method} {c : Code} {Q : State → Prop} {A : Nat → Prop} (E : mx_E) (a_t : Nat) (a_kind : Nat) (a_weight : Nat) (a_strength : Nat) (a_height : Nat) (a_folk : Nat) (a_mustBeAbove : Nat) (a_wind : Nat) (v_storeys : Int32) (v_pairs : Int32) (v_bears : Int32) (v_soft : Int32) (v_cellars : Int32) (v_kind : (Nat → Int32)) (v_weight : (Nat → Int32)) (v_strength : (Nat → Int32)) (v_height : (Nat → Int32)) (v_folk : (Nat → Int32)) (v_mustBeAbove : (Nat → Int32)) (x1 : Int32) (x2 : Int32) (x3 : Int32) (x4 : Int32) (post : (Nat → Int32) → (Nat → Int32) → (Nat → Int32) → (Nat → Int32) → (Nat → Int32) → (Nat → Int32) → Int32 → Int32 → Prop) (hB : mx_B p m c cX1_tellStorey 5 s args RX1 E) (hP : va_P E.1 vwCl (w_X1_tellStorey E a_t a_kind a_weight a_strength a_height a_folk a_mustBeAbove a_wind v_storeys v_pairs v_bears v_soft v_cellars v_kind v_weight v_strength v_height v_folk v_mustBeAbove) s.heap) (hD : va_D A (w_X1_tellStorey E a_t a_kind a_weight a_strength a_height a_folk a_mustBeAbove a_wind v_storeys v_pairs v_bears v_soft v_cellars v_kind v_weight v_strength v_height v_folk v_mustBeAbove)) (hA : ∀ q : Nat, s.heap.size ≤ q → A q) (hRet : ∀ (u : (Nat → Int32) × (Nat → Int32) × (Nat → Int32) × (Nat → Int32) × (Nat → Int32) × (Nat → Int32) × Int32 × Int32) (pc : Nat) (ls : Array Slot) (H : Heap) (locs : List Loc), decode cX1_tellStorey pc = .ok (.return_, 1) → post u.1 u.2.1 u.2.2.1 u.2.2.2.1 u.2.2.2.2.1 u.2.2.2.2.2.1 u.2.2.2.2.2.2.1 u.2.2.2.2.2.2.2 → va_P E.1 vwCl (w_X1_tellStorey E a_t a_kind a_weight a_strength a_height a_folk a_mustBeAbove a_wind u.2.2.2.2.2.2.1 v_pairs v_bears v_soft u.2.2.2.2.2.2.2 u.1 u.2.1 u.2.2.1 u.2.2.2.1 u.2.2.2.2.1 u.2.2.2.2.2.1) H → va_S A s.heap H locs → W p l e rm_X1_tellStorey s m args below meth c H locs 0 0 Q (F0 m pc ls [])) (hf : f_X1_tellStorey v_kind v_weight v_strength v_height v_folk v_mustBeAbove v_storeys v_cellars x1 x2 x3 x4 post) (ls : Array Slot) (hl : lv_has ls 5 [(0, .ref a_t), (1, .int x1), (2, .int x2), (3, .int x3), (4, .int x4)]) : W p l e rm_X1_tellStorey s m args below meth c s.heap [] 0 0 Q (F0 m 0 ls []) := by
  have hx := hB.x
  have hb := hB.b
  have hS : va_S A s.heap s.heap [] := va_S.rf
  have J_91 : ∀ (j91_v_kind : (Nat → Int32)) (j91_v_weight : (Nat → Int32)) (j91_v_strength : (Nat → Int32)) (j91_v_height : (Nat → Int32)) (j91_v_folk : (Nat → Int32)) (j91_v_mustBeAbove : (Nat → Int32)) (j91_v_storeys : Int32) (j91_v_cellars : Int32) (ls : Array Slot) (H : Heap) (locs : List Loc), f_X1_tellStorey_91 post j91_v_kind j91_v_weight j91_v_strength j91_v_height j91_v_folk j91_v_mustBeAbove j91_v_storeys j91_v_cellars → lv_has ls 5 [(0, .ref a_t)] → va_P E.1 vwCl (w_X1_tellStorey E a_t a_kind a_weight a_strength a_height a_folk a_mustBeAbove a_wind j91_v_storeys v_pairs v_bears v_soft j91_v_cellars j91_v_kind j91_v_weight j91_v_strength j91_v_height j91_v_folk j91_v_mustBeAbove) H → va_D A (w_X1_tellStorey E a_t a_kind a_weight a_strength a_height a_folk a_mustBeAbove a_wind j91_v_storeys v_pairs v_bears v_soft j91_v_cellars j91_v_kind j91_v_weight j91_v_strength j91_v_height j91_v_folk j91_v_mustBeAbove) → va_S A s.heap H locs → W p l e rm_X1_tellStorey s m args below meth c H locs 0 0 Q (F0 m 91 ls []) := by
    intro j91_v_kind j91_v_weight j91_v_strength j91_v_height j91_v_folk j91_v_mustBeAbove j91_v_storeys j91_v_cellars ls H locs hf hl hP hD hS
    refine lv_aload_n hx hb dX1_tellStorey_91 rfl (lv_at hl 0 rfl) ?_
    refine lv_dup hx hb dX1_tellStorey_92 rfl ?_
    refine gf_X1_36 hB hP 0 rfl rfl dX1_tellStorey_93 ?_
    refine lv_iconst hx hb dX1_tellStorey_96 kc_i_1 ?_
    refine lv_iadd hx hb dX1_tellStorey_97 ?_
    refine pf_X1_36 hB hP hD hS 0 rfl (Nat.le_of_ble_eq_true rfl) dX1_tellStorey_98 (w_X1_tellStorey E a_t a_kind a_weight a_strength a_height a_folk a_mustBeAbove a_wind (j91_v_storeys + 1) v_pairs v_bears v_soft j91_v_cellars j91_v_kind j91_v_weight j91_v_strength j91_v_height j91_v_folk j91_v_mustBeAbove) rfl (fun H locs hP hD hS => ?_)
    exact hRet (j91_v_kind, j91_v_weight, j91_v_strength, j91_v_height, j91_v_folk, j91_v_mustBeAbove, j91_v_storeys + 1, j91_v_cellars) 101 ls H locs dX1_tellStorey_101 hf hP hS
  obtain ⟨H, locs, eH, eL⟩ : ∃ (H : Heap) (locs : List Loc), H = s.heap ∧ locs = [] := ⟨_, _, rfl, rfl⟩
  rw [← eH] at hP
  have hS : va_S A s.heap H locs := by rw [eH, eL]; exact hS
  show W p l e rm_X1_tellStorey s m args below meth c s.heap [] 0 0 Q (F0 m 0 ls [])
  rw [← eH, ← eL]
  refine lv_aload_n hx hb dX1_tellStorey_0 rfl (lv_at hl 0 rfl) ?_
  refine gf_X1_36 hB hP 0 rfl rfl dX1_tellStorey_1 ?_
  refine lv_bipush hx hb dX1_tellStorey_4 kc_b_8 ?_
  refine lv_icmp_lt (tgt := 10) hx hb dX1_tellStorey_6 (by decide) (fun c6 => ?_) (fun c6 => ?_)
  · have hf := hf.1 c6
    refine lv_aload_n hx hb dX1_tellStorey_10 rfl (lv_at hl 0 rfl) ?_
    refine gf_X1_9 hB hP 0 rfl rfl dX1_tellStorey_11 ?_
    refine lv_aload_n hx hb dX1_tellStorey_14 rfl (lv_at hl 0 rfl) ?_
    refine gf_X1_36 hB hP 0 rfl rfl dX1_tellStorey_15 ?_
    refine lv_iload_n hx hb dX1_tellStorey_18 rfl (lv_at hl 1 rfl) ?_
    obtain ⟨h_in, hf⟩ := hf
    refine va_iast hx hb hB.K hP hD hS 1 0 rfl rfl h_in dX1_tellStorey_19 (fun H locs hP hD hS => ?_)
    have hP : va_P E.1 vwCl (w_X1_tellStorey E a_t a_kind a_weight a_strength a_height a_folk a_mustBeAbove a_wind v_storeys v_pairs v_bears v_soft v_cellars (upd v_kind v_storeys.toNatClampNeg x1) v_weight v_strength v_height v_folk v_mustBeAbove) H := hP
    have hD : va_D A (w_X1_tellStorey E a_t a_kind a_weight a_strength a_height a_folk a_mustBeAbove a_wind v_storeys v_pairs v_bears v_soft v_cellars (upd v_kind v_storeys.toNatClampNeg x1) v_weight v_strength v_height v_folk v_mustBeAbove) := hD
    refine lv_aload_n hx hb dX1_tellStorey_20 rfl (lv_at hl 0 rfl) ?_
    refine gf_X1_15 hB hP 0 rfl rfl dX1_tellStorey_21 ?_
    refine lv_aload_n hx hb dX1_tellStorey_24 rfl (lv_at hl 0 rfl) ?_
    refine gf_X1_36 hB hP 0 rfl rfl dX1_tellStorey_25 ?_
    refine lv_iload_n hx hb dX1_tellStorey_28 rfl (lv_at hl 2 rfl) ?_
    obtain ⟨h_in, hf⟩ := hf
    refine va_iast hx hb hB.K hP hD hS 2 0 rfl rfl h_in dX1_tellStorey_29 (fun H locs hP hD hS => ?_)
    have hP : va_P E.1 vwCl (w_X1_tellStorey E a_t a_kind a_weight a_strength a_height a_folk a_mustBeAbove a_wind v_storeys v_pairs v_bears v_soft v_cellars (upd v_kind v_storeys.toNatClampNeg x1) (upd v_weight v_storeys.toNatClampNeg x2) v_strength v_height v_folk v_mustBeAbove) H := hP
    have hD : va_D A (w_X1_tellStorey E a_t a_kind a_weight a_strength a_height a_folk a_mustBeAbove a_wind v_storeys v_pairs v_bears v_soft v_cellars (upd v_kind v_storeys.toNatClampNeg x1) (upd v_weight v_storeys.toNatClampNeg x2) v_strength v_height v_folk v_mustBeAbove) := hD
    refine lv_aload_n hx hb dX1_tellStorey_30 rfl (lv_at hl 0 rfl) ?_
    refine gf_X1_18 hB hP 0 rfl rfl dX1_tellStorey_31 ?_
    refine lv_aload_n hx hb dX1_tellStorey_34 rfl (lv_at hl 0 rfl) ?_
    refine gf_X1_36 hB hP 0 rfl rfl dX1_tellStorey_35 ?_
    refine lv_iload_n hx hb dX1_tellStorey_38 rfl (lv_at hl 3 rfl) ?_
    obtain ⟨h_in, hf⟩ := hf
    refine va_iast hx hb hB.K hP hD hS 3 0 rfl rfl h_in dX1_tellStorey_39 (fun H locs hP hD hS => ?_)
    have hP : va_P E.1 vwCl (w_X1_tellStorey E a_t a_kind a_weight a_strength a_height a_folk a_mustBeAbove a_wind v_storeys v_pairs v_bears v_soft v_cellars (upd v_kind v_storeys.toNatClampNeg x1) (upd v_weight v_storeys.toNatClampNeg x2) (upd v_strength v_storeys.toNatClampNeg x3) v_height v_folk v_mustBeAbove) H := hP
    have hD : va_D A (w_X1_tellStorey E a_t a_kind a_weight a_strength a_height a_folk a_mustBeAbove a_wind v_storeys v_pairs v_bears v_soft v_cellars (upd v_kind v_storeys.toNatClampNeg x1) (upd v_weight v_storeys.toNatClampNeg x2) (upd v_strength v_storeys.toNatClampNeg x3) v_height v_folk v_mustBeAbove) := hD
    refine lv_aload_n hx hb dX1_tellStorey_40 rfl (lv_at hl 0 rfl) ?_
    refine gf_X1_21 hB hP 0 rfl rfl dX1_tellStorey_41 ?_
    refine lv_aload_n hx hb dX1_tellStorey_44 rfl (lv_at hl 0 rfl) ?_
    refine gf_X1_36 hB hP 0 rfl rfl dX1_tellStorey_45 ?_
    refine lv_iload hx hb dX1_tellStorey_48 (lv_at hl 4 rfl) ?_
    obtain ⟨h_in, hf⟩ := hf
    refine va_iast hx hb hB.K hP hD hS 4 0 rfl rfl h_in dX1_tellStorey_50 (fun H locs hP hD hS => ?_)
    have hP : va_P E.1 vwCl (w_X1_tellStorey E a_t a_kind a_weight a_strength a_height a_folk a_mustBeAbove a_wind v_storeys v_pairs v_bears v_soft v_cellars (upd v_kind v_storeys.toNatClampNeg x1) (upd v_weight v_storeys.toNatClampNeg x2) (upd v_strength v_storeys.toNatClampNeg x3) (upd v_height v_storeys.toNatClampNeg x4) v_folk v_mustBeAbove) H := hP
    have hD : va_D A (w_X1_tellStorey E a_t a_kind a_weight a_strength a_height a_folk a_mustBeAbove a_wind v_storeys v_pairs v_bears v_soft v_cellars (upd v_kind v_storeys.toNatClampNeg x1) (upd v_weight v_storeys.toNatClampNeg x2) (upd v_strength v_storeys.toNatClampNeg x3) (upd v_height v_storeys.toNatClampNeg x4) v_folk v_mustBeAbove) := hD
    refine lv_aload_n hx hb dX1_tellStorey_51 rfl (lv_at hl 0 rfl) ?_
    refine gf_X1_24 hB hP 0 rfl rfl dX1_tellStorey_52 ?_
    refine lv_aload_n hx hb dX1_tellStorey_55 rfl (lv_at hl 0 rfl) ?_
    refine gf_X1_36 hB hP 0 rfl rfl dX1_tellStorey_56 ?_
    refine lv_iconst hx hb dX1_tellStorey_59 kc_i_0 ?_
    obtain ⟨h_in, hf⟩ := hf
    refine va_iast hx hb hB.K hP hD hS 5 0 rfl rfl h_in dX1_tellStorey_60 (fun H locs hP hD hS => ?_)
    have hP : va_P E.1 vwCl (w_X1_tellStorey E a_t a_kind a_weight a_strength a_height a_folk a_mustBeAbove a_wind v_storeys v_pairs v_bears v_soft v_cellars (upd v_kind v_storeys.toNatClampNeg x1) (upd v_weight v_storeys.toNatClampNeg x2) (upd v_strength v_storeys.toNatClampNeg x3) (upd v_height v_storeys.toNatClampNeg x4) (upd v_folk v_storeys.toNatClampNeg 0) v_mustBeAbove) H := hP
    have hD : va_D A (w_X1_tellStorey E a_t a_kind a_weight a_strength a_height a_folk a_mustBeAbove a_wind v_storeys v_pairs v_bears v_soft v_cellars (upd v_kind v_storeys.toNatClampNeg x1) (upd v_weight v_storeys.toNatClampNeg x2) (upd v_strength v_storeys.toNatClampNeg x3) (upd v_height v_storeys.toNatClampNeg x4) (upd v_folk v_storeys.toNatClampNeg 0) v_mustBeAbove) := hD
    refine lv_aload_n hx hb dX1_tellStorey_61 rfl (lv_at hl 0 rfl) ?_
    refine gf_X1_27 hB hP 0 rfl rfl dX1_tellStorey_62 ?_
    refine lv_aload_n hx hb dX1_tellStorey_65 rfl (lv_at hl 0 rfl) ?_
    refine gf_X1_36 hB hP 0 rfl rfl dX1_tellStorey_66 ?_
    refine lv_iconst hx hb dX1_tellStorey_69 kc_i_0 ?_
    obtain ⟨h_in, hf⟩ := hf
    refine va_iast hx hb hB.K hP hD hS 6 0 rfl rfl h_in dX1_tellStorey_70 (fun H locs hP hD hS => ?_)
    have hP : va_P E.1 vwCl (w_X1_tellStorey E a_t a_kind a_weight a_strength a_height a_folk a_mustBeAbove a_wind v_storeys v_pairs v_bears v_soft v_cellars (upd v_kind v_storeys.toNatClampNeg x1) (upd v_weight v_storeys.toNatClampNeg x2) (upd v_strength v_storeys.toNatClampNeg x3) (upd v_height v_storeys.toNatClampNeg x4) (upd v_folk v_storeys.toNatClampNeg 0) (upd v_mustBeAbove v_storeys.toNatClampNeg 0)) H := hP
    have hD : va_D A (w_X1_tellStorey E a_t a_kind a_weight a_strength a_height a_folk a_mustBeAbove a_wind v_storeys v_pairs v_bears v_soft v_cellars (upd v_kind v_storeys.toNatClampNeg x1) (upd v_weight v_storeys.toNatClampNeg x2) (upd v_strength v_storeys.toNatClampNeg x3) (upd v_height v_storeys.toNatClampNeg x4) (upd v_folk v_storeys.toNatClampNeg 0) (upd v_mustBeAbove v_storeys.toNatClampNeg 0)) := hD
    refine lv_iload_n hx hb dX1_tellStorey_71 rfl (lv_at hl 1 rfl) ?_
    refine lv_iconst hx hb dX1_tellStorey_72 kc_i_2 ?_
    refine lv_icmp_ne (tgt := 91) hx hb dX1_tellStorey_73 (by decide) (fun c73 => ?_) (fun c73 => ?_)
    · have hf := hf.1 c73
      exact J_91 (upd v_kind v_storeys.toNatClampNeg x1) (upd v_weight v_storeys.toNatClampNeg x2) (upd v_strength v_storeys.toNatClampNeg x3) (upd v_height v_storeys.toNatClampNeg x4) (upd v_folk v_storeys.toNatClampNeg 0) (upd v_mustBeAbove v_storeys.toNatClampNeg 0) v_storeys v_cellars ls H locs hf (lv_sub hl [0] rfl) hP hD hS
    · have hf := hf.2 c73
      refine lv_aload_n hx hb dX1_tellStorey_76 rfl (lv_at hl 0 rfl) ?_
      refine lv_dup hx hb dX1_tellStorey_77 rfl ?_
      refine gf_X1_49 hB hP 0 rfl rfl dX1_tellStorey_78 ?_
      refine lv_iconst hx hb dX1_tellStorey_81 kc_i_1 ?_
      refine lv_aload_n hx hb dX1_tellStorey_82 rfl (lv_at hl 0 rfl) ?_
      refine gf_X1_36 hB hP 0 rfl rfl dX1_tellStorey_83 ?_
      refine lv_ishl hx hb dX1_tellStorey_86 ?_
      refine lv_ior hx hb dX1_tellStorey_87 ?_
      refine pf_X1_49 hB hP hD hS 0 rfl (Nat.le_of_ble_eq_true rfl) dX1_tellStorey_88 (w_X1_tellStorey E a_t a_kind a_weight a_strength a_height a_folk a_mustBeAbove a_wind v_storeys v_pairs v_bears v_soft (v_cellars ||| (1 <<< (v_storeys &&& 31))) (upd v_kind v_storeys.toNatClampNeg x1) (upd v_weight v_storeys.toNatClampNeg x2) (upd v_strength v_storeys.toNatClampNeg x3) (upd v_height v_storeys.toNatClampNeg x4) (upd v_folk v_storeys.toNatClampNeg 0) (upd v_mustBeAbove v_storeys.toNatClampNeg 0)) rfl (fun H locs hP hD hS => ?_)
      exact J_91 (upd v_kind v_storeys.toNatClampNeg x1) (upd v_weight v_storeys.toNatClampNeg x2) (upd v_strength v_storeys.toNatClampNeg x3) (upd v_height v_storeys.toNatClampNeg x4) (upd v_folk v_storeys.toNatClampNeg 0) (upd v_mustBeAbove v_storeys.toNatClampNeg 0) v_storeys (v_cellars ||| (1 <<< (v_storeys &&& 31))) ls H locs hf (lv_sub hl [0] rfl) hP hD hS
  · have hf := hf.2 c6
    exact hRet (v_kind, v_weight, v_strength, v_height, v_folk, v_mustBeAbove, v_storeys, v_cellars) 9 ls H locs dX1_tellStorey_9 hf hP hS
theorem c_X1_tellStorey (l : Launch) (E : mx_E) (a_t : Nat) (a_kind : Nat) (a_weight : Nat) (a_strength : Nat) (a_height : Nat) (a_folk : Nat) (a_mustBeAbove : Nat) (a_wind : Nat) (v_storeys : Int32) (v_pairs : Int32) (v_bears : Int32) (v_soft : Int32) (v_cellars : Int32) (v_kind : (Nat → Int32)) (v_weight : (Nat → Int32)) (v_strength : (Nat → Int32)) (v_height : (Nat → Int32)) (v_folk : (Nat → Int32)) (v_mustBeAbove : (Nat → Int32)) (sz : Nat) (x1 : Int32) (x2 : Int32) (x3 : Int32) (x4 : Int32) (post : (Nat → Int32) → (Nat → Int32) → (Nat → Int32) → (Nat → Int32) → (Nat → Int32) → (Nat → Int32) → Int32 → Int32 → Prop) (hf : f_X1_tellStorey v_kind v_weight v_strength v_height v_folk v_mustBeAbove v_storeys v_cellars x1 x2 x3 x4 post) : Met l yX1_tellStorey (Cond.code yX1_tellStorey cX1_tellStorey 5 none :: mx_WS) rm_X1_tellStorey (va_Pc [.ref a_t, .int x1, .int x2, .int x3, .int x4] (mx_Pw E (w_X1_tellStorey E a_t a_kind a_weight a_strength a_height a_folk a_mustBeAbove a_wind v_storeys v_pairs v_bears v_soft v_cellars v_kind v_weight v_strength v_height v_folk v_mustBeAbove) sz)) (va_Qv (fun (u : (Nat → Int32) × (Nat → Int32) × (Nat → Int32) × (Nat → Int32) × (Nat → Int32) × (Nat → Int32) × Int32 × Int32) => post u.1 u.2.1 u.2.2.1 u.2.2.2.1 u.2.2.2.2.1 u.2.2.2.2.2.1 u.2.2.2.2.2.2.1 u.2.2.2.2.2.2.2) (fun u t => va_P E.1 vwCl (w_X1_tellStorey E a_t a_kind a_weight a_strength a_height a_folk a_mustBeAbove a_wind u.2.2.2.2.2.2.1 v_pairs v_bears v_soft u.2.2.2.2.2.2.2 u.1 u.2.1 u.2.2.1 u.2.2.2.1 u.2.2.2.2.1 u.2.2.2.2.2.1) t.heap) (va_A (w_X1_tellStorey E a_t a_kind a_weight a_strength a_height a_folk a_mustBeAbove a_wind v_storeys v_pairs v_bears v_soft v_cellars v_kind v_weight v_strength v_height v_folk v_mustBeAbove) sz)) 0 0 (va_A (w_X1_tellStorey E a_t a_kind a_weight a_strength a_height a_folk a_mustBeAbove a_wind v_storeys v_pairs v_bears v_soft v_cellars v_kind v_weight v_strength v_height v_folk v_mustBeAbove) sz) :=
  mx_metWv (by decide) rfl rfl (fun hB hP hD hA hRet ls hl => b_X1_tellStorey E a_t a_kind a_weight a_strength a_height a_folk a_mustBeAbove a_wind v_storeys v_pairs v_bears v_soft v_cellars v_kind v_weight v_strength v_height v_folk v_mustBeAbove x1 x2 x3 x4 post hB hP hD hA hRet hf ls hl)
def rm_X1_tellWind : Room := { frames := 0, cells := 0, slots := 0, locals := 0 }
set_option maxHeartbeats 4000000 in
set_option maxRecDepth 100000 in
theorem b_X1_tellWind {p : Program} {l : Launch} {e : Env} {s : State} {m : MethodId} {args : Array Value} {below : List Frame} {meth : Method} {c : Code} {Q : State → Prop} {A : Nat → Prop} (E : mx_E) (a_t : Nat) (a_kind : Nat) (a_weight : Nat) (a_strength : Nat) (a_height : Nat) (a_folk : Nat) (a_mustBeAbove : Nat) (a_wind : Nat) (v_storeys : Int32) (v_pairs : Int32) (v_bears : Int32) (v_soft : Int32) (v_cellars : Int32) (v_wind : (Nat → Int32)) (x1 : Int32) (x2 : Int32) (x3 : Int32) (post : (Nat → Int32) → Prop) (hB : mx_B p m c cX1_tellWind 5 s args RX1 E) (hP : va_P E.1 vwCl (w_X1_tellWind E a_t a_kind a_weight a_strength a_height a_folk a_mustBeAbove a_wind v_storeys v_pairs v_bears v_soft v_cellars v_wind) s.heap) (hD : va_D A (w_X1_tellWind E a_t a_kind a_weight a_strength a_height a_folk a_mustBeAbove a_wind v_storeys v_pairs v_bears v_soft v_cellars v_wind)) (hA : ∀ q : Nat, s.heap.size ≤ q → A q) (hRet : ∀ (u : (Nat → Int32)) (pc : Nat) (ls : Array Slot) (H : Heap) (locs : List Loc), decode cX1_tellWind pc = .ok (.return_, 1) → post u → va_P E.1 vwCl (w_X1_tellWind E a_t a_kind a_weight a_strength a_height a_folk a_mustBeAbove a_wind v_storeys v_pairs v_bears v_soft v_cellars u) H → va_S A s.heap H locs → W p l e rm_X1_tellWind s m args below meth c H locs 0 0 Q (F0 m pc ls [])) (hf : f_X1_tellWind v_wind x1 x2 x3 post) (ls : Array Slot) (hl : lv_has ls 5 [(0, .ref a_t), (1, .int x1), (2, .int x2), (3, .int x3)]) : W p l e rm_X1_tellWind s m args below meth c s.heap [] 0 0 Q (F0 m 0 ls []) := by
  have hx := hB.x
  have hb := hB.b
  have hS : va_S A s.heap s.heap [] := va_S.rf
  have L_3 : ∀ (g3_x2 : Int32) (g3_x3 : Int32) (n : Nat) (j3_x4 : Int32) (j3_v_wind : (Nat → Int32)) (ls : Array Slot) (H : Heap) (locs : List Loc), mx_l2 (f_X1_tellWind_3 post g3_x2 g3_x3) n j3_x4 j3_v_wind → lv_has ls 5 [(0, .ref a_t), (2, .int g3_x2), (3, .int g3_x3), (4, .int j3_x4)] → va_P E.1 vwCl (w_X1_tellWind E a_t a_kind a_weight a_strength a_height a_folk a_mustBeAbove a_wind v_storeys v_pairs v_bears v_soft v_cellars j3_v_wind) H → va_D A (w_X1_tellWind E a_t a_kind a_weight a_strength a_height a_folk a_mustBeAbove a_wind v_storeys v_pairs v_bears v_soft v_cellars j3_v_wind) → va_S A s.heap H locs → W p l e rm_X1_tellWind s m args below meth c H locs 0 0 Q (F0 m 3 ls []) := by
    intro g3_x2 g3_x3 n_3
    induction n_3 with
    | zero =>
      intro j3_x4 j3_v_wind ls H locs hf hl hP hD hS
      exact False.elim hf
    | succ n_3 ih_3 =>
      intro j3_x4 j3_v_wind ls H locs hf hl hP hD hS
      replace hf : f_X1_tellWind_3 post g3_x2 g3_x3 (mx_l2 (f_X1_tellWind_3 post g3_x2 g3_x3) n_3) j3_x4 j3_v_wind := hf
      refine lv_iload hx hb dX1_tellWind_3 (lv_at hl 3 rfl) ?_
      refine lv_if_lt (tgt := 35) hx hb dX1_tellWind_5 (by decide) (fun c5 => ?_) (fun c5 => ?_)
      · have hf := hf.1 c5
        exact hRet j3_v_wind 35 ls H locs dX1_tellWind_35 hf hP hS
      · have hf := hf.2 c5
        refine lv_iload hx hb dX1_tellWind_8 (lv_at hl 3 rfl) ?_
        refine lv_iload_n hx hb dX1_tellWind_10 rfl (lv_at hl 1 rfl) ?_
        refine lv_icmp_gt (tgt := 35) hx hb dX1_tellWind_11 (by decide) (fun c11 => ?_) (fun c11 => ?_)
        · have hf := hf.1 c11
          exact hRet j3_v_wind 35 ls H locs dX1_tellWind_35 hf hP hS
        · have hf := hf.2 c11
          refine lv_iload hx hb dX1_tellWind_14 (lv_at hl 3 rfl) ?_
          refine lv_bipush hx hb dX1_tellWind_16 kc_b_40 ?_
          refine lv_icmp_ge (tgt := 35) hx hb dX1_tellWind_18 (by decide) (fun c18 => ?_) (fun c18 => ?_)
          · have hf := hf.1 c18
            exact hRet j3_v_wind 35 ls H locs dX1_tellWind_35 hf hP hS
          · have hf := hf.2 c18
            refine lv_aload_n hx hb dX1_tellWind_21 rfl (lv_at hl 0 rfl) ?_
            refine gf_X1_30 hB hP 0 rfl rfl dX1_tellWind_22 ?_
            refine lv_iload hx hb dX1_tellWind_25 (lv_at hl 3 rfl) ?_
            refine lv_iload_n hx hb dX1_tellWind_27 rfl (lv_at hl 2 rfl) ?_
            obtain ⟨h_in, hf⟩ := hf
            refine va_iast hx hb hB.K hP hD hS 1 0 rfl rfl h_in dX1_tellWind_28 (fun H locs hP hD hS => ?_)
            have hP : va_P E.1 vwCl (w_X1_tellWind E a_t a_kind a_weight a_strength a_height a_folk a_mustBeAbove a_wind v_storeys v_pairs v_bears v_soft v_cellars (upd j3_v_wind j3_x4.toNatClampNeg g3_x3)) H := hP
            have hD : va_D A (w_X1_tellWind E a_t a_kind a_weight a_strength a_height a_folk a_mustBeAbove a_wind v_storeys v_pairs v_bears v_soft v_cellars (upd j3_v_wind j3_x4.toNatClampNeg g3_x3)) := hD
            refine lv_iinc (v := j3_x4 + 1) (lv' := [(4, .int (j3_x4 + 1)), (0, .ref a_t), (2, .int g3_x2), (3, .int g3_x3)]) hx hb dX1_tellWind_29 hl (k := 3) rfl (by rw [kc_i_1]) (by decide) rfl (fun ls hl => ?_)
            refine lv_goto (tgt := 3) hx hb dX1_tellWind_32 (by decide) ?_
            exact ih_3 (j3_x4 + 1) (upd j3_v_wind j3_x4.toNatClampNeg g3_x3) ls H locs hf (lv_sub hl [1, 2, 3, 0] rfl) hP hD hS
  obtain ⟨H, locs, eH, eL⟩ : ∃ (H : Heap) (locs : List Loc), H = s.heap ∧ locs = [] := ⟨_, _, rfl, rfl⟩
  rw [← eH] at hP
  have hS : va_S A s.heap H locs := by rw [eH, eL]; exact hS
  show W p l e rm_X1_tellWind s m args below meth c s.heap [] 0 0 Q (F0 m 0 ls [])
  rw [← eH, ← eL]
  refine lv_iload_n hx hb dX1_tellWind_0 rfl (lv_at hl 1 rfl) ?_
  refine lv_istore (lv' := [(4, .int x1), (0, .ref a_t), (1, .int x1), (2, .int x2), (3, .int x3)]) hx hb dX1_tellWind_1 hl (by decide) rfl (fun ls hl => ?_)
  obtain ⟨n9, hf⟩ := hf
  exact L_3 x2 x3 n9 x1 v_wind ls H locs hf (lv_sub hl [1, 3, 4, 0] rfl) hP hD hS
theorem c_X1_tellWind (l : Launch) (E : mx_E) (a_t : Nat) (a_kind : Nat) (a_weight : Nat) (a_strength : Nat) (a_height : Nat) (a_folk : Nat) (a_mustBeAbove : Nat) (a_wind : Nat) (v_storeys : Int32) (v_pairs : Int32) (v_bears : Int32) (v_soft : Int32) (v_cellars : Int32) (v_wind : (Nat → Int32)) (sz : Nat) (x1 : Int32) (x2 : Int32) (x3 : Int32) (post : (Nat → Int32) → Prop) (hf : f_X1_tellWind v_wind x1 x2 x3 post) : Met l yX1_tellWind (Cond.code yX1_tellWind cX1_tellWind 5 none :: mx_WS) rm_X1_tellWind (va_Pc [.ref a_t, .int x1, .int x2, .int x3] (mx_Pw E (w_X1_tellWind E a_t a_kind a_weight a_strength a_height a_folk a_mustBeAbove a_wind v_storeys v_pairs v_bears v_soft v_cellars v_wind) sz)) (va_Qv (fun (u : (Nat → Int32)) => post u) (fun u t => va_P E.1 vwCl (w_X1_tellWind E a_t a_kind a_weight a_strength a_height a_folk a_mustBeAbove a_wind v_storeys v_pairs v_bears v_soft v_cellars u) t.heap) (va_A (w_X1_tellWind E a_t a_kind a_weight a_strength a_height a_folk a_mustBeAbove a_wind v_storeys v_pairs v_bears v_soft v_cellars v_wind) sz)) 0 0 (va_A (w_X1_tellWind E a_t a_kind a_weight a_strength a_height a_folk a_mustBeAbove a_wind v_storeys v_pairs v_bears v_soft v_cellars v_wind) sz) :=
  mx_metWv (by decide) rfl rfl (fun hB hP hD hA hRet ls hl => b_X1_tellWind E a_t a_kind a_weight a_strength a_height a_folk a_mustBeAbove a_wind v_storeys v_pairs v_bears v_soft v_cellars v_wind x1 x2 x3 post hB hP hD hA hRet hf ls hl)
def rm_X1_startAnew : Room := { frames := 1, cells := 0, slots := 0, locals := 24 }
set_option maxHeartbeats 4000000 in
set_option maxRecDepth 100000 in
theorem b_X1_startAnew {p : Program} {l : Launch} {e : Env} {s : State} {m : MethodId} {args : Array Value} {below : List Frame} {meth : Method} {c : Code} {Q : State → Prop} {A : Nat → Prop} (E : mx_E) (a_t : Nat) (a_kind : Nat) (a_weight : Nat) (a_strength : Nat) (a_height : Nat) (a_folk : Nat) (a_mustBeAbove : Nat) (a_wind : Nat) (v_storeys : Int32) (v_pairs : Int32) (v_bears : Int32) (v_soft : Int32) (v_cellars : Int32) (v_wind : (Nat → Int32))  (post : Int32 → Int32 → Int32 → Int32 → Int32 → (Nat → Int32) → Prop) (hB : mx_B p m c cX1_startAnew 1 s args RX1 E) (hP : va_P E.1 vwCl (w_X1_startAnew E a_t a_kind a_weight a_strength a_height a_folk a_mustBeAbove a_wind v_storeys v_pairs v_bears v_soft v_cellars v_wind) s.heap) (hD : va_D A (w_X1_startAnew E a_t a_kind a_weight a_strength a_height a_folk a_mustBeAbove a_wind v_storeys v_pairs v_bears v_soft v_cellars v_wind)) (hA : ∀ q : Nat, s.heap.size ≤ q → A q) (hRet : ∀ (u : Int32 × Int32 × Int32 × Int32 × Int32 × (Nat → Int32)) (pc : Nat) (ls : Array Slot) (H : Heap) (locs : List Loc), decode cX1_startAnew pc = .ok (.return_, 1) → post u.1 u.2.1 u.2.2.1 u.2.2.2.1 u.2.2.2.2.1 u.2.2.2.2.2 → va_P E.1 vwCl (w_X1_startAnew E a_t a_kind a_weight a_strength a_height a_folk a_mustBeAbove a_wind u.1 u.2.1 u.2.2.1 u.2.2.2.1 u.2.2.2.2.1 u.2.2.2.2.2) H → va_S A s.heap H locs → W p l e rm_X1_startAnew s m args below meth c H locs 0 0 Q (F0 m pc ls [])) (hf : f_X1_startAnew v_storeys v_pairs v_bears v_soft v_cellars v_wind post) (ls : Array Slot) (hl : lv_has ls 1 [(0, .ref a_t)]) : W p l e rm_X1_startAnew s m args below meth c s.heap [] 0 0 Q (F0 m 0 ls []) := by
  have hx := hB.x
  have hb := hB.b
  have hS : va_S A s.heap s.heap [] := va_S.rf
  obtain ⟨H, locs, eH, eL⟩ : ∃ (H : Heap) (locs : List Loc), H = s.heap ∧ locs = [] := ⟨_, _, rfl, rfl⟩
  rw [← eH] at hP
  have hS : va_S A s.heap H locs := by rw [eH, eL]; exact hS
  show W p l e rm_X1_startAnew s m args below meth c s.heap [] 0 0 Q (F0 m 0 ls [])
  rw [← eH, ← eL]
  refine lv_aload_n hx hb dX1_startAnew_0 rfl (lv_at hl 0 rfl) ?_
  refine lv_iconst hx hb dX1_startAnew_1 kc_i_0 ?_
  refine pf_X1_36 hB hP hD hS 0 rfl (Nat.le_of_ble_eq_true rfl) dX1_startAnew_2 (w_X1_startAnew E a_t a_kind a_weight a_strength a_height a_folk a_mustBeAbove a_wind 0 v_pairs v_bears v_soft v_cellars v_wind) rfl (fun H locs hP hD hS => ?_)
  refine lv_aload_n hx hb dX1_startAnew_5 rfl (lv_at hl 0 rfl) ?_
  refine lv_iconst hx hb dX1_startAnew_6 kc_i_0 ?_
  refine pf_X1_40 hB hP hD hS 0 rfl (Nat.le_of_ble_eq_true rfl) dX1_startAnew_7 (w_X1_startAnew E a_t a_kind a_weight a_strength a_height a_folk a_mustBeAbove a_wind 0 0 v_bears v_soft v_cellars v_wind) rfl (fun H locs hP hD hS => ?_)
  refine lv_aload_n hx hb dX1_startAnew_10 rfl (lv_at hl 0 rfl) ?_
  refine lv_sipush hx hb dX1_startAnew_11 kc_s_500 ?_
  refine pf_X1_43 hB hP hD hS 0 rfl (Nat.le_of_ble_eq_true rfl) dX1_startAnew_14 (w_X1_startAnew E a_t a_kind a_weight a_strength a_height a_folk a_mustBeAbove a_wind 0 0 500 v_soft v_cellars v_wind) rfl (fun H locs hP hD hS => ?_)
  refine lv_aload_n hx hb dX1_startAnew_17 rfl (lv_at hl 0 rfl) ?_
  refine lv_bipush hx hb dX1_startAnew_18 kc_b_10 ?_
  refine pf_X1_46 hB hP hD hS 0 rfl (Nat.le_of_ble_eq_true rfl) dX1_startAnew_20 (w_X1_startAnew E a_t a_kind a_weight a_strength a_height a_folk a_mustBeAbove a_wind 0 0 500 10 v_cellars v_wind) rfl (fun H locs hP hD hS => ?_)
  refine lv_aload_n hx hb dX1_startAnew_23 rfl (lv_at hl 0 rfl) ?_
  refine lv_iconst hx hb dX1_startAnew_24 kc_i_0 ?_
  refine pf_X1_49 hB hP hD hS 0 rfl (Nat.le_of_ble_eq_true rfl) dX1_startAnew_25 (w_X1_startAnew E a_t a_kind a_weight a_strength a_height a_folk a_mustBeAbove a_wind 0 0 500 10 0 v_wind) rfl (fun H locs hP hD hS => ?_)
  refine lv_aload_n hx hb dX1_startAnew_28 rfl (lv_at hl 0 rfl) ?_
  refine lv_iconst hx hb dX1_startAnew_29 kc_i_0 ?_
  refine lv_bipush hx hb dX1_startAnew_30 kc_b_39 ?_
  refine lv_iconst hx hb dX1_startAnew_32 kc_i_0 ?_
  refine mx_wv (mx_runV (As := [.int 0, .int 39, .int 0]) (rest := []) hB (c_X1_tellWind l E a_t a_kind a_weight a_strength a_height a_folk a_mustBeAbove a_wind 0 0 500 10 0 v_wind H.size 0 39 0 _ hf) sB_X1_tellWind sV_X1_tellWind wml_X1_52 rfl (mx_pwV hB hP hD [0, 1] (by decide) rfl rfl 1 rfl rfl rfl) hl.1 rfl (Nat.le_of_ble_eq_true rfl) dX1_startAnew_33 ⟨Nat.zero_le _, Nat.zero_le _⟩) hP hD hS hA [0, 1] [] 2 rfl (fun u => w_X1_startAnew E a_t a_kind a_weight a_strength a_height a_folk a_mustBeAbove a_wind 0 0 500 10 0 u) (fun _ => rfl) (by decide) (fun _ => rfl) (fun _ => rfl) rfl (fun _ => rfl) (fun u H locs hf hP hD hS => ?_)
  obtain ⟨u2, rfl⟩ : ∃ z, z = u := ⟨_, rfl⟩
  have hP : va_P E.1 vwCl (w_X1_startAnew E a_t a_kind a_weight a_strength a_height a_folk a_mustBeAbove a_wind 0 0 500 10 0 u2) H := hP
  have hD : va_D A (w_X1_startAnew E a_t a_kind a_weight a_strength a_height a_folk a_mustBeAbove a_wind 0 0 500 10 0 u2) := hD
  exact hRet (0, 0, 500, 10, 0, u2) 36 ls H locs dX1_startAnew_36 hf hP hS
theorem c_X1_startAnew (l : Launch) (E : mx_E) (a_t : Nat) (a_kind : Nat) (a_weight : Nat) (a_strength : Nat) (a_height : Nat) (a_folk : Nat) (a_mustBeAbove : Nat) (a_wind : Nat) (v_storeys : Int32) (v_pairs : Int32) (v_bears : Int32) (v_soft : Int32) (v_cellars : Int32) (v_wind : (Nat → Int32)) (sz : Nat)  (post : Int32 → Int32 → Int32 → Int32 → Int32 → (Nat → Int32) → Prop) (hf : f_X1_startAnew v_storeys v_pairs v_bears v_soft v_cellars v_wind post) : Met l yX1_startAnew (Cond.code yX1_startAnew cX1_startAnew 1 none :: mx_WS) rm_X1_startAnew (va_Pc [.ref a_t] (mx_Pw E (w_X1_startAnew E a_t a_kind a_weight a_strength a_height a_folk a_mustBeAbove a_wind v_storeys v_pairs v_bears v_soft v_cellars v_wind) sz)) (va_Qv (fun (u : Int32 × Int32 × Int32 × Int32 × Int32 × (Nat → Int32)) => post u.1 u.2.1 u.2.2.1 u.2.2.2.1 u.2.2.2.2.1 u.2.2.2.2.2) (fun u t => va_P E.1 vwCl (w_X1_startAnew E a_t a_kind a_weight a_strength a_height a_folk a_mustBeAbove a_wind u.1 u.2.1 u.2.2.1 u.2.2.2.1 u.2.2.2.2.1 u.2.2.2.2.2) t.heap) (va_A (w_X1_startAnew E a_t a_kind a_weight a_strength a_height a_folk a_mustBeAbove a_wind v_storeys v_pairs v_bears v_soft v_cellars v_wind) sz)) 0 0 (va_A (w_X1_startAnew E a_t a_kind a_weight a_strength a_height a_folk a_mustBeAbove a_wind v_storeys v_pairs v_bears v_soft v_cellars v_wind) sz) :=
  mx_metWv (by decide) rfl rfl (fun hB hP hD hA hRet ls hl => b_X1_startAnew E a_t a_kind a_weight a_strength a_height a_folk a_mustBeAbove a_wind v_storeys v_pairs v_bears v_soft v_cellars v_wind  post hB hP hD hA hRet hf ls hl)
def rm_X1_has : Room := { frames := 0, cells := 0, slots := 0, locals := 0 }
set_option maxHeartbeats 4000000 in
set_option maxRecDepth 100000 in
theorem b_X1_has {p : Program} {l : Launch} {e : Env} {s : State} {m : MethodId} {args : Array Value} {below : List Frame} {meth : Method} {c : Code} {Q : State → Prop} (E : mx_E) (a_t : Nat) (a_kind : Nat) (a_weight : Nat) (a_strength : Nat) (a_height : Nat) (a_folk : Nat) (a_mustBeAbove : Nat) (a_wind : Nat) (v_storeys : Int32) (v_pairs : Int32) (v_bears : Int32) (v_soft : Int32) (v_cellars : Int32) (x1 : Int32) (post : Int32 → Prop) (hB : mx_B p m c cX1_has 2 s args RX1 E) (hP : va_P E.1 vwCl (w_X1_has E a_t a_kind a_weight a_strength a_height a_folk a_mustBeAbove a_wind v_storeys v_pairs v_bears v_soft v_cellars) s.heap) (hRet : ∀ (v : Int32) (pc : Nat) (ls : Array Slot), decode cX1_has pc = .ok (.ireturn, 1) → (v = 0 ∨ v = 1) → post v → W p l e rm_X1_has s m args below meth c s.heap [] 0 0 Q (F0 m pc ls [.int v])) (hf : f_X1_has v_storeys x1 post) (ls : Array Slot) (hl : lv_has ls 2 [(0, .ref a_t), (1, .int x1)]) : W p l e rm_X1_has s m args below meth c s.heap [] 0 0 Q (F0 m 0 ls []) := by
  have hx := hB.x
  have hb := hB.b
  refine lv_iload_n hx hb dX1_has_0 rfl (lv_at hl 1 rfl) ?_
  refine lv_if_lt (tgt := 16) hx hb dX1_has_1 (by decide) (fun c1 => ?_) (fun c1 => ?_)
  · have hf := hf.1 c1
    refine lv_iconst hx hb dX1_has_16 kc_i_0 ?_
    exact hRet 0 17 ls dX1_has_17 (Or.inl rfl) hf
  · have hf := hf.2 c1
    refine lv_iload_n hx hb dX1_has_4 rfl (lv_at hl 1 rfl) ?_
    refine lv_aload_n hx hb dX1_has_5 rfl (lv_at hl 0 rfl) ?_
    refine gf_X1_36 hB hP 0 rfl rfl dX1_has_6 ?_
    refine lv_icmp_ge (tgt := 16) hx hb dX1_has_9 (by decide) (fun c9 => ?_) (fun c9 => ?_)
    · have hf := hf.1 c9
      refine lv_iconst hx hb dX1_has_16 kc_i_0 ?_
      exact hRet 0 17 ls dX1_has_17 (Or.inl rfl) hf
    · have hf := hf.2 c9
      refine lv_iconst hx hb dX1_has_12 kc_i_1 ?_
      refine lv_goto (tgt := 17) hx hb dX1_has_13 (by decide) ?_
      exact hRet 1 17 ls dX1_has_17 (Or.inr rfl) hf
theorem c_X1_has (l : Launch) (E : mx_E) (a_t : Nat) (a_kind : Nat) (a_weight : Nat) (a_strength : Nat) (a_height : Nat) (a_folk : Nat) (a_mustBeAbove : Nat) (a_wind : Nat) (v_storeys : Int32) (v_pairs : Int32) (v_bears : Int32) (v_soft : Int32) (v_cellars : Int32) (x1 : Int32) (post : Int32 → Prop) (hf : f_X1_has v_storeys x1 post) : Met l yX1_has (Cond.code yX1_has cX1_has 2 (some .boolean) :: mx_WS) rm_X1_has (va_Pc [.ref a_t, .int x1] (mx_Pp E (w_X1_has E a_t a_kind a_weight a_strength a_height a_folk a_mustBeAbove a_wind v_storeys v_pairs v_bears v_soft v_cellars))) (vp_Si post) 0 0 (fun _ => False) :=
  mx_metPz (by decide) rfl rfl (fun hB hP hRet ls hl => b_X1_has E a_t a_kind a_weight a_strength a_height a_folk a_mustBeAbove a_wind v_storeys v_pairs v_bears v_soft v_cellars x1 post hB hP hRet hf ls hl)
def rm_X1_tellPair : Room := { frames := 1, cells := 0, slots := 0, locals := 21 }
set_option maxHeartbeats 4000000 in
set_option maxRecDepth 100000 in
theorem b_X1_tellPair {p : Program} {l : Launch} {e : Env} {s : State} {m : MethodId} {args : Array Value} {below : List Frame} {meth : Method} {c : Code} {Q : State → Prop} {A : Nat → Prop} (E : mx_E) (a_t : Nat) (a_kind : Nat) (a_weight : Nat) (a_strength : Nat) (a_height : Nat) (a_folk : Nat) (a_mustBeAbove : Nat) (a_wind : Nat) (v_storeys : Int32) (v_pairs : Int32) (v_bears : Int32) (v_soft : Int32) (v_cellars : Int32) (v_mustBeAbove : (Nat → Int32)) (x1 : Int32) (x2 : Int32) (post : (Nat → Int32) → Int32 → Prop) (hB : mx_B p m c cX1_tellPair 3 s args RX1 E) (hP : va_P E.1 vwCl (w_X1_tellPair E a_t a_kind a_weight a_strength a_height a_folk a_mustBeAbove a_wind v_storeys v_pairs v_bears v_soft v_cellars v_mustBeAbove) s.heap) (hD : va_D A (w_X1_tellPair E a_t a_kind a_weight a_strength a_height a_folk a_mustBeAbove a_wind v_storeys v_pairs v_bears v_soft v_cellars v_mustBeAbove)) (hA : ∀ q : Nat, s.heap.size ≤ q → A q) (hRet : ∀ (u : (Nat → Int32) × Int32) (pc : Nat) (ls : Array Slot) (H : Heap) (locs : List Loc), decode cX1_tellPair pc = .ok (.return_, 1) → post u.1 u.2 → va_P E.1 vwCl (w_X1_tellPair E a_t a_kind a_weight a_strength a_height a_folk a_mustBeAbove a_wind v_storeys u.2 v_bears v_soft v_cellars u.1) H → va_S A s.heap H locs → W p l e rm_X1_tellPair s m args below meth c H locs 0 0 Q (F0 m pc ls [])) (hf : f_X1_tellPair v_storeys v_mustBeAbove v_pairs x1 x2 post) (ls : Array Slot) (hl : lv_has ls 3 [(0, .ref a_t), (1, .int x1), (2, .int x2)]) : W p l e rm_X1_tellPair s m args below meth c s.heap [] 0 0 Q (F0 m 0 ls []) := by
  have hx := hB.x
  have hb := hB.b
  have hS : va_S A s.heap s.heap [] := va_S.rf
  obtain ⟨H, locs, eH, eL⟩ : ∃ (H : Heap) (locs : List Loc), H = s.heap ∧ locs = [] := ⟨_, _, rfl, rfl⟩
  rw [← eH] at hP
  have hS : va_S A s.heap H locs := by rw [eH, eL]; exact hS
  show W p l e rm_X1_tellPair s m args below meth c s.heap [] 0 0 Q (F0 m 0 ls [])
  rw [← eH, ← eL]
  refine lv_aload_n hx hb dX1_tellPair_0 rfl (lv_at hl 0 rfl) ?_
  refine lv_iload_n hx hb dX1_tellPair_1 rfl (lv_at hl 1 rfl) ?_
  refine mx_gi (mx_runV (As := [.int x1]) (rest := []) hB (c_X1_has l E a_t a_kind a_weight a_strength a_height a_folk a_mustBeAbove a_wind v_storeys v_pairs v_bears v_soft v_cellars x1 _ hf) sB_X1_has sV_X1_has wml_X1_62 rfl (mx_ppV hB hP [0] rfl 1 rfl rfl rfl) hl.1 rfl (Nat.le_of_ble_eq_true rfl) dX1_tellPair_2 ⟨Nat.zero_le _, Nat.zero_le _⟩) (fun r1 hf => ?_)
  refine lv_if_eq (tgt := 38) hx hb dX1_tellPair_5 (by decide) (fun c5 => ?_) (fun c5 => ?_)
  · have hf := hf.1 c5
    exact hRet (v_mustBeAbove, v_pairs) 38 ls H locs dX1_tellPair_38 hf hP hS
  · have hf := hf.2 c5
    refine lv_aload_n hx hb dX1_tellPair_8 rfl (lv_at hl 0 rfl) ?_
    refine lv_iload_n hx hb dX1_tellPair_9 rfl (lv_at hl 2 rfl) ?_
    refine mx_gi (mx_runV (As := [.int x2]) (rest := []) hB (c_X1_has l E a_t a_kind a_weight a_strength a_height a_folk a_mustBeAbove a_wind v_storeys v_pairs v_bears v_soft v_cellars x2 _ hf) sB_X1_has sV_X1_has wml_X1_62 rfl (mx_ppV hB hP [0] rfl 1 rfl rfl rfl) hl.1 rfl (Nat.le_of_ble_eq_true rfl) dX1_tellPair_10 ⟨Nat.zero_le _, Nat.zero_le _⟩) (fun r2 hf => ?_)
    refine lv_if_eq (tgt := 38) hx hb dX1_tellPair_13 (by decide) (fun c13 => ?_) (fun c13 => ?_)
    · have hf := hf.1 c13
      exact hRet (v_mustBeAbove, v_pairs) 38 ls H locs dX1_tellPair_38 hf hP hS
    · have hf := hf.2 c13
      refine lv_aload_n hx hb dX1_tellPair_16 rfl (lv_at hl 0 rfl) ?_
      refine gf_X1_27 hB hP 0 rfl rfl dX1_tellPair_17 ?_
      refine lv_iload_n hx hb dX1_tellPair_20 rfl (lv_at hl 2 rfl) ?_
      refine lv_dup2_11 hx hb dX1_tellPair_21 rfl rfl ?_
      obtain ⟨h_in, hf⟩ := hf
      refine va_iald hx hb hB.K hP 1 0 rfl rfl h_in dX1_tellPair_22 ?_
      refine lv_iconst hx hb dX1_tellPair_23 kc_i_1 ?_
      refine lv_iload_n hx hb dX1_tellPair_24 rfl (lv_at hl 1 rfl) ?_
      refine lv_ishl hx hb dX1_tellPair_25 ?_
      refine lv_ior hx hb dX1_tellPair_26 ?_
      obtain ⟨h_in, hf⟩ := hf
      refine va_iast hx hb hB.K hP hD hS 1 0 rfl rfl h_in dX1_tellPair_27 (fun H locs hP hD hS => ?_)
      have hP : va_P E.1 vwCl (w_X1_tellPair E a_t a_kind a_weight a_strength a_height a_folk a_mustBeAbove a_wind v_storeys v_pairs v_bears v_soft v_cellars (upd v_mustBeAbove x2.toNatClampNeg ((v_mustBeAbove x2.toNatClampNeg) ||| (1 <<< (x1 &&& 31))))) H := hP
      have hD : va_D A (w_X1_tellPair E a_t a_kind a_weight a_strength a_height a_folk a_mustBeAbove a_wind v_storeys v_pairs v_bears v_soft v_cellars (upd v_mustBeAbove x2.toNatClampNeg ((v_mustBeAbove x2.toNatClampNeg) ||| (1 <<< (x1 &&& 31))))) := hD
      refine lv_aload_n hx hb dX1_tellPair_28 rfl (lv_at hl 0 rfl) ?_
      refine lv_dup hx hb dX1_tellPair_29 rfl ?_
      refine gf_X1_40 hB hP 0 rfl rfl dX1_tellPair_30 ?_
      refine lv_iconst hx hb dX1_tellPair_33 kc_i_1 ?_
      refine lv_iadd hx hb dX1_tellPair_34 ?_
      refine pf_X1_40 hB hP hD hS 0 rfl (Nat.le_of_ble_eq_true rfl) dX1_tellPair_35 (w_X1_tellPair E a_t a_kind a_weight a_strength a_height a_folk a_mustBeAbove a_wind v_storeys (v_pairs + 1) v_bears v_soft v_cellars (upd v_mustBeAbove x2.toNatClampNeg ((v_mustBeAbove x2.toNatClampNeg) ||| (1 <<< (x1 &&& 31))))) rfl (fun H locs hP hD hS => ?_)
      exact hRet (upd v_mustBeAbove x2.toNatClampNeg ((v_mustBeAbove x2.toNatClampNeg) ||| (1 <<< (x1 &&& 31))), v_pairs + 1) 38 ls H locs dX1_tellPair_38 hf hP hS
theorem c_X1_tellPair (l : Launch) (E : mx_E) (a_t : Nat) (a_kind : Nat) (a_weight : Nat) (a_strength : Nat) (a_height : Nat) (a_folk : Nat) (a_mustBeAbove : Nat) (a_wind : Nat) (v_storeys : Int32) (v_pairs : Int32) (v_bears : Int32) (v_soft : Int32) (v_cellars : Int32) (v_mustBeAbove : (Nat → Int32)) (sz : Nat) (x1 : Int32) (x2 : Int32) (post : (Nat → Int32) → Int32 → Prop) (hf : f_X1_tellPair v_storeys v_mustBeAbove v_pairs x1 x2 post) : Met l yX1_tellPair (Cond.code yX1_tellPair cX1_tellPair 3 none :: mx_WS) rm_X1_tellPair (va_Pc [.ref a_t, .int x1, .int x2] (mx_Pw E (w_X1_tellPair E a_t a_kind a_weight a_strength a_height a_folk a_mustBeAbove a_wind v_storeys v_pairs v_bears v_soft v_cellars v_mustBeAbove) sz)) (va_Qv (fun (u : (Nat → Int32) × Int32) => post u.1 u.2) (fun u t => va_P E.1 vwCl (w_X1_tellPair E a_t a_kind a_weight a_strength a_height a_folk a_mustBeAbove a_wind v_storeys u.2 v_bears v_soft v_cellars u.1) t.heap) (va_A (w_X1_tellPair E a_t a_kind a_weight a_strength a_height a_folk a_mustBeAbove a_wind v_storeys v_pairs v_bears v_soft v_cellars v_mustBeAbove) sz)) 0 0 (va_A (w_X1_tellPair E a_t a_kind a_weight a_strength a_height a_folk a_mustBeAbove a_wind v_storeys v_pairs v_bears v_soft v_cellars v_mustBeAbove) sz) :=
  mx_metWv (by decide) rfl rfl (fun hB hP hD hA hRet ls hl => b_X1_tellPair E a_t a_kind a_weight a_strength a_height a_folk a_mustBeAbove a_wind v_storeys v_pairs v_bears v_soft v_cellars v_mustBeAbove x1 x2 post hB hP hD hA hRet hf ls hl)
def rm_X1_tellFolk : Room := { frames := 1, cells := 0, slots := 0, locals := 21 }
set_option maxHeartbeats 4000000 in
set_option maxRecDepth 100000 in
theorem b_X1_tellFolk {p : Program} {l : Launch} {e : Env} {s : State} {m : MethodId} {args : Array Value} {below : List Frame} {meth : Method} {c : Code} {Q : State → Prop} {A : Nat → Prop} (E : mx_E) (a_t : Nat) (a_kind : Nat) (a_weight : Nat) (a_strength : Nat) (a_height : Nat) (a_folk : Nat) (a_mustBeAbove : Nat) (a_wind : Nat) (v_storeys : Int32) (v_pairs : Int32) (v_bears : Int32) (v_soft : Int32) (v_cellars : Int32) (v_folk : (Nat → Int32)) (x1 : Int32) (x2 : Int32) (post : (Nat → Int32) → Prop) (hB : mx_B p m c cX1_tellFolk 3 s args RX1 E) (hP : va_P E.1 vwCl (w_X1_tellFolk E a_t a_kind a_weight a_strength a_height a_folk a_mustBeAbove a_wind v_storeys v_pairs v_bears v_soft v_cellars v_folk) s.heap) (hD : va_D A (w_X1_tellFolk E a_t a_kind a_weight a_strength a_height a_folk a_mustBeAbove a_wind v_storeys v_pairs v_bears v_soft v_cellars v_folk)) (hA : ∀ q : Nat, s.heap.size ≤ q → A q) (hRet : ∀ (u : (Nat → Int32)) (pc : Nat) (ls : Array Slot) (H : Heap) (locs : List Loc), decode cX1_tellFolk pc = .ok (.return_, 1) → post u → va_P E.1 vwCl (w_X1_tellFolk E a_t a_kind a_weight a_strength a_height a_folk a_mustBeAbove a_wind v_storeys v_pairs v_bears v_soft v_cellars u) H → va_S A s.heap H locs → W p l e rm_X1_tellFolk s m args below meth c H locs 0 0 Q (F0 m pc ls [])) (hf : f_X1_tellFolk v_storeys v_folk x1 x2 post) (ls : Array Slot) (hl : lv_has ls 3 [(0, .ref a_t), (1, .int x1), (2, .int x2)]) : W p l e rm_X1_tellFolk s m args below meth c s.heap [] 0 0 Q (F0 m 0 ls []) := by
  have hx := hB.x
  have hb := hB.b
  have hS : va_S A s.heap s.heap [] := va_S.rf
  obtain ⟨H, locs, eH, eL⟩ : ∃ (H : Heap) (locs : List Loc), H = s.heap ∧ locs = [] := ⟨_, _, rfl, rfl⟩
  rw [← eH] at hP
  have hS : va_S A s.heap H locs := by rw [eH, eL]; exact hS
  show W p l e rm_X1_tellFolk s m args below meth c s.heap [] 0 0 Q (F0 m 0 ls [])
  rw [← eH, ← eL]
  refine lv_aload_n hx hb dX1_tellFolk_0 rfl (lv_at hl 0 rfl) ?_
  refine lv_iload_n hx hb dX1_tellFolk_1 rfl (lv_at hl 1 rfl) ?_
  refine mx_gi (mx_runV (As := [.int x1]) (rest := []) hB (c_X1_has l E a_t a_kind a_weight a_strength a_height a_folk a_mustBeAbove a_wind v_storeys v_pairs v_bears v_soft v_cellars x1 _ hf) sB_X1_has sV_X1_has wml_X1_62 rfl (mx_ppV hB hP [0] rfl 1 rfl rfl rfl) hl.1 rfl (Nat.le_of_ble_eq_true rfl) dX1_tellFolk_2 ⟨Nat.zero_le _, Nat.zero_le _⟩) (fun r1 hf => ?_)
  refine lv_if_eq (tgt := 15) hx hb dX1_tellFolk_5 (by decide) (fun c5 => ?_) (fun c5 => ?_)
  · have hf := hf.1 c5
    exact hRet v_folk 15 ls H locs dX1_tellFolk_15 hf hP hS
  · have hf := hf.2 c5
    refine lv_aload_n hx hb dX1_tellFolk_8 rfl (lv_at hl 0 rfl) ?_
    refine gf_X1_24 hB hP 0 rfl rfl dX1_tellFolk_9 ?_
    refine lv_iload_n hx hb dX1_tellFolk_12 rfl (lv_at hl 1 rfl) ?_
    refine lv_iload_n hx hb dX1_tellFolk_13 rfl (lv_at hl 2 rfl) ?_
    obtain ⟨h_in, hf⟩ := hf
    refine va_iast hx hb hB.K hP hD hS 1 0 rfl rfl h_in dX1_tellFolk_14 (fun H locs hP hD hS => ?_)
    have hP : va_P E.1 vwCl (w_X1_tellFolk E a_t a_kind a_weight a_strength a_height a_folk a_mustBeAbove a_wind v_storeys v_pairs v_bears v_soft v_cellars (upd v_folk x1.toNatClampNeg x2)) H := hP
    have hD : va_D A (w_X1_tellFolk E a_t a_kind a_weight a_strength a_height a_folk a_mustBeAbove a_wind v_storeys v_pairs v_bears v_soft v_cellars (upd v_folk x1.toNatClampNeg x2)) := hD
    exact hRet (upd v_folk x1.toNatClampNeg x2) 15 ls H locs dX1_tellFolk_15 hf hP hS
theorem c_X1_tellFolk (l : Launch) (E : mx_E) (a_t : Nat) (a_kind : Nat) (a_weight : Nat) (a_strength : Nat) (a_height : Nat) (a_folk : Nat) (a_mustBeAbove : Nat) (a_wind : Nat) (v_storeys : Int32) (v_pairs : Int32) (v_bears : Int32) (v_soft : Int32) (v_cellars : Int32) (v_folk : (Nat → Int32)) (sz : Nat) (x1 : Int32) (x2 : Int32) (post : (Nat → Int32) → Prop) (hf : f_X1_tellFolk v_storeys v_folk x1 x2 post) : Met l yX1_tellFolk (Cond.code yX1_tellFolk cX1_tellFolk 3 none :: mx_WS) rm_X1_tellFolk (va_Pc [.ref a_t, .int x1, .int x2] (mx_Pw E (w_X1_tellFolk E a_t a_kind a_weight a_strength a_height a_folk a_mustBeAbove a_wind v_storeys v_pairs v_bears v_soft v_cellars v_folk) sz)) (va_Qv (fun (u : (Nat → Int32)) => post u) (fun u t => va_P E.1 vwCl (w_X1_tellFolk E a_t a_kind a_weight a_strength a_height a_folk a_mustBeAbove a_wind v_storeys v_pairs v_bears v_soft v_cellars u) t.heap) (va_A (w_X1_tellFolk E a_t a_kind a_weight a_strength a_height a_folk a_mustBeAbove a_wind v_storeys v_pairs v_bears v_soft v_cellars v_folk) sz)) 0 0 (va_A (w_X1_tellFolk E a_t a_kind a_weight a_strength a_height a_folk a_mustBeAbove a_wind v_storeys v_pairs v_bears v_soft v_cellars v_folk) sz) :=
  mx_metWv (by decide) rfl rfl (fun hB hP hD hA hRet ls hl => b_X1_tellFolk E a_t a_kind a_weight a_strength a_height a_folk a_mustBeAbove a_wind v_storeys v_pairs v_bears v_soft v_cellars v_folk x1 x2 post hB hP hD hA hRet hf ls hl)
def rm_X1_all : Room := { frames := 0, cells := 0, slots := 0, locals := 0 }
set_option maxHeartbeats 4000000 in
set_option maxRecDepth 100000 in
theorem b_X1_all {p : Program} {l : Launch} {e : Env} {s : State} {m : MethodId} {args : Array Value} {below : List Frame} {meth : Method} {c : Code} {Q : State → Prop} (E : mx_E) (a_t : Nat) (a_kind : Nat) (a_weight : Nat) (a_strength : Nat) (a_height : Nat) (a_folk : Nat) (a_mustBeAbove : Nat) (a_wind : Nat) (v_storeys : Int32) (v_pairs : Int32) (v_bears : Int32) (v_soft : Int32) (v_cellars : Int32)  (post : Int32 → Prop) (hB : mx_B p m c cX1_all 1 s args RX1 E) (hP : va_P E.1 vwCl (w_X1_all E a_t a_kind a_weight a_strength a_height a_folk a_mustBeAbove a_wind v_storeys v_pairs v_bears v_soft v_cellars) s.heap) (hRet : ∀ (v : Int32) (pc : Nat) (ls : Array Slot), decode cX1_all pc = .ok (.ireturn, 1) → post v → W p l e rm_X1_all s m args below meth c s.heap [] 0 0 Q (F0 m pc ls [.int v])) (hf : f_X1_all v_storeys post) (ls : Array Slot) (hl : lv_has ls 1 [(0, .ref a_t)]) : W p l e rm_X1_all s m args below meth c s.heap [] 0 0 Q (F0 m 0 ls []) := by
  have hx := hB.x
  have hb := hB.b
  refine lv_iconst hx hb dX1_all_0 kc_i_1 ?_
  refine lv_aload_n hx hb dX1_all_1 rfl (lv_at hl 0 rfl) ?_
  refine gf_X1_36 hB hP 0 rfl rfl dX1_all_2 ?_
  refine lv_ishl hx hb dX1_all_5 ?_
  refine lv_iconst hx hb dX1_all_6 kc_i_1 ?_
  refine lv_isub hx hb dX1_all_7 ?_
  exact hRet ((1 <<< (v_storeys &&& 31)) - 1) 8 ls dX1_all_8 hf
theorem c_X1_all (l : Launch) (E : mx_E) (a_t : Nat) (a_kind : Nat) (a_weight : Nat) (a_strength : Nat) (a_height : Nat) (a_folk : Nat) (a_mustBeAbove : Nat) (a_wind : Nat) (v_storeys : Int32) (v_pairs : Int32) (v_bears : Int32) (v_soft : Int32) (v_cellars : Int32)  (post : Int32 → Prop) (hf : f_X1_all v_storeys post) : Met l yX1_all (Cond.code yX1_all cX1_all 1 (some .int) :: mx_WS) rm_X1_all (va_Pc [.ref a_t] (mx_Pp E (w_X1_all E a_t a_kind a_weight a_strength a_height a_folk a_mustBeAbove a_wind v_storeys v_pairs v_bears v_soft v_cellars))) (vp_Si post) 0 0 (fun _ => False) :=
  mx_metPi (by decide) rfl rfl (fun hB hP hRet ls hl => b_X1_all E a_t a_kind a_weight a_strength a_height a_folk a_mustBeAbove a_wind v_storeys v_pairs v_bears v_soft v_cellars  post hB hP hRet hf ls hl)
def rm_X1_loadOf : Room := { frames := 0, cells := 0, slots := 0, locals := 0 }
set_option maxHeartbeats 4000000 in
set_option maxRecDepth 100000 in
theorem b_X1_loadOf {p : Program} {l : Launch} {e : Env} {s : State} {m : MethodId} {args : Array Value} {below : List Frame} {meth : Method} {c : Code} {Q : State → Prop} (E : mx_E) (a_t : Nat) (a_kind : Nat) (a_weight : Nat) (a_strength : Nat) (a_height : Nat) (a_folk : Nat) (a_mustBeAbove : Nat) (a_wind : Nat) (v_storeys : Int32) (v_pairs : Int32) (v_bears : Int32) (v_soft : Int32) (v_cellars : Int32) (v_weight : (Nat → Int32)) (v_folk : (Nat → Int32)) (x1 : Int32) (post : Int32 → Prop) (hB : mx_B p m c cX1_loadOf 4 s args RX1 E) (hP : va_P E.1 vwCl (w_X1_loadOf E a_t a_kind a_weight a_strength a_height a_folk a_mustBeAbove a_wind v_storeys v_pairs v_bears v_soft v_cellars v_weight v_folk) s.heap) (hRet : ∀ (v : Int32) (pc : Nat) (ls : Array Slot), decode cX1_loadOf pc = .ok (.ireturn, 1) → post v → W p l e rm_X1_loadOf s m args below meth c s.heap [] 0 0 Q (F0 m pc ls [.int v])) (hf : f_X1_loadOf v_storeys v_weight v_folk x1 post) (ls : Array Slot) (hl : lv_has ls 4 [(0, .ref a_t), (1, .int x1)]) : W p l e rm_X1_loadOf s m args below meth c s.heap [] 0 0 Q (F0 m 0 ls []) := by
  have hx := hB.x
  have hb := hB.b
  have L_4 : ∀ (g4_x1 : Int32) (n : Nat) (j4_x2 : Int32) (j4_x3 : Int32) (ls : Array Slot), mx_l2 (f_X1_loadOf_4 v_storeys v_weight v_folk post g4_x1) n j4_x2 j4_x3 → lv_has ls 4 [(0, .ref a_t), (1, .int g4_x1), (2, .int j4_x2), (3, .int j4_x3)] → W p l e rm_X1_loadOf s m args below meth c s.heap [] 0 0 Q (F0 m 4 ls []) := by
    intro g4_x1 n_4
    induction n_4 with
    | zero =>
      intro j4_x2 j4_x3 ls hf hl
      exact False.elim hf
    | succ n_4 ih_4 =>
      intro j4_x2 j4_x3 ls hf hl
      replace hf : f_X1_loadOf_4 v_storeys v_weight v_folk post g4_x1 (mx_l2 (f_X1_loadOf_4 v_storeys v_weight v_folk post g4_x1) n_4) j4_x2 j4_x3 := hf
      refine lv_iload_n hx hb dX1_loadOf_4 rfl (lv_at hl 3 rfl) ?_
      refine lv_aload_n hx hb dX1_loadOf_5 rfl (lv_at hl 0 rfl) ?_
      refine gf_X1_36 hB hP 0 rfl rfl dX1_loadOf_6 ?_
      refine lv_icmp_ge (tgt := 43) hx hb dX1_loadOf_9 (by decide) (fun c9 => ?_) (fun c9 => ?_)
      · have hf := hf.1 c9
        refine lv_iload_n hx hb dX1_loadOf_43 rfl (lv_at hl 2 rfl) ?_
        exact hRet j4_x2 44 ls dX1_loadOf_44 hf
      · have hf := hf.2 c9
        refine lv_iload_n hx hb dX1_loadOf_12 rfl (lv_at hl 1 rfl) ?_
        refine lv_iload_n hx hb dX1_loadOf_13 rfl (lv_at hl 3 rfl) ?_
        refine lv_ishr hx hb dX1_loadOf_14 ?_
        refine lv_iconst hx hb dX1_loadOf_15 kc_i_1 ?_
        refine lv_iand hx hb dX1_loadOf_16 ?_
        refine lv_iconst hx hb dX1_loadOf_17 kc_i_1 ?_
        refine lv_icmp_ne (tgt := 37) hx hb dX1_loadOf_18 (by decide) (fun c18 => ?_) (fun c18 => ?_)
        · have hf := hf.1 c18
          refine lv_iinc (v := j4_x3 + 1) (lv' := [(3, .int (j4_x3 + 1)), (0, .ref a_t), (1, .int g4_x1), (2, .int j4_x2)]) hx hb dX1_loadOf_37 hl (k := 3) rfl (by rw [kc_i_1]) (by decide) rfl (fun ls hl => ?_)
          refine lv_goto (tgt := 4) hx hb dX1_loadOf_40 (by decide) ?_
          exact ih_4 j4_x2 (j4_x3 + 1) ls hf (lv_sub hl [1, 2, 3, 0] rfl)
        · have hf := hf.2 c18
          refine lv_iload_n hx hb dX1_loadOf_21 rfl (lv_at hl 2 rfl) ?_
          refine lv_aload_n hx hb dX1_loadOf_22 rfl (lv_at hl 0 rfl) ?_
          refine gf_X1_15 hB hP 0 rfl rfl dX1_loadOf_23 ?_
          refine lv_iload_n hx hb dX1_loadOf_26 rfl (lv_at hl 3 rfl) ?_
          obtain ⟨h_in, hf⟩ := hf
          refine va_iald hx hb hB.K hP 1 0 rfl rfl h_in dX1_loadOf_27 ?_
          refine lv_aload_n hx hb dX1_loadOf_28 rfl (lv_at hl 0 rfl) ?_
          refine gf_X1_24 hB hP 0 rfl rfl dX1_loadOf_29 ?_
          refine lv_iload_n hx hb dX1_loadOf_32 rfl (lv_at hl 3 rfl) ?_
          obtain ⟨h_in, hf⟩ := hf
          refine va_iald hx hb hB.K hP 2 0 rfl rfl h_in dX1_loadOf_33 ?_
          refine lv_iadd hx hb dX1_loadOf_34 ?_
          refine lv_iadd hx hb dX1_loadOf_35 ?_
          refine lv_istore_n (lv' := [(2, .int (j4_x2 + ((v_weight j4_x3.toNatClampNeg) + (v_folk j4_x3.toNatClampNeg)))), (0, .ref a_t), (1, .int g4_x1), (3, .int j4_x3)]) hx hb dX1_loadOf_36 rfl hl (by decide) rfl (fun ls hl => ?_)
          refine lv_iinc (v := j4_x3 + 1) (lv' := [(3, .int (j4_x3 + 1)), (2, .int (j4_x2 + ((v_weight j4_x3.toNatClampNeg) + (v_folk j4_x3.toNatClampNeg)))), (0, .ref a_t), (1, .int g4_x1)]) hx hb dX1_loadOf_37 hl (k := 3) rfl (by rw [kc_i_1]) (by decide) rfl (fun ls hl => ?_)
          refine lv_goto (tgt := 4) hx hb dX1_loadOf_40 (by decide) ?_
          exact ih_4 (j4_x2 + ((v_weight j4_x3.toNatClampNeg) + (v_folk j4_x3.toNatClampNeg))) (j4_x3 + 1) ls hf (lv_sub hl [2, 3, 1, 0] rfl)
  refine lv_iconst hx hb dX1_loadOf_0 kc_i_0 ?_
  refine lv_istore_n (lv' := [(2, .int 0), (0, .ref a_t), (1, .int x1)]) hx hb dX1_loadOf_1 rfl hl (by decide) rfl (fun ls hl => ?_)
  refine lv_iconst hx hb dX1_loadOf_2 kc_i_0 ?_
  refine lv_istore_n (lv' := [(3, .int 0), (2, .int 0), (0, .ref a_t), (1, .int x1)]) hx hb dX1_loadOf_3 rfl hl (by decide) rfl (fun ls hl => ?_)
  obtain ⟨n9, hf⟩ := hf
  exact L_4 x1 n9 0 0 ls hf (lv_sub hl [2, 3, 1, 0] rfl)
theorem c_X1_loadOf (l : Launch) (E : mx_E) (a_t : Nat) (a_kind : Nat) (a_weight : Nat) (a_strength : Nat) (a_height : Nat) (a_folk : Nat) (a_mustBeAbove : Nat) (a_wind : Nat) (v_storeys : Int32) (v_pairs : Int32) (v_bears : Int32) (v_soft : Int32) (v_cellars : Int32) (v_weight : (Nat → Int32)) (v_folk : (Nat → Int32)) (x1 : Int32) (post : Int32 → Prop) (hf : f_X1_loadOf v_storeys v_weight v_folk x1 post) : Met l yX1_loadOf (Cond.code yX1_loadOf cX1_loadOf 4 (some .int) :: mx_WS) rm_X1_loadOf (va_Pc [.ref a_t, .int x1] (mx_Pp E (w_X1_loadOf E a_t a_kind a_weight a_strength a_height a_folk a_mustBeAbove a_wind v_storeys v_pairs v_bears v_soft v_cellars v_weight v_folk))) (vp_Si post) 0 0 (fun _ => False) :=
  mx_metPi (by decide) rfl rfl (fun hB hP hRet ls hl => b_X1_loadOf E a_t a_kind a_weight a_strength a_height a_folk a_mustBeAbove a_wind v_storeys v_pairs v_bears v_soft v_cellars v_weight v_folk x1 post hB hP hRet hf ls hl)
def rm_X1_heightOf : Room := { frames := 0, cells := 0, slots := 0, locals := 0 }
set_option maxHeartbeats 4000000 in
set_option maxRecDepth 100000 in
theorem b_X1_heightOf {p : Program} {l : Launch} {e : Env} {s : State} {m : MethodId} {args : Array Value} {below : List Frame} {meth : Method} {c : Code} {Q : State → Prop} (E : mx_E) (a_t : Nat) (a_kind : Nat) (a_weight : Nat) (a_strength : Nat) (a_height : Nat) (a_folk : Nat) (a_mustBeAbove : Nat) (a_wind : Nat) (v_storeys : Int32) (v_pairs : Int32) (v_bears : Int32) (v_soft : Int32) (v_cellars : Int32) (v_height : (Nat → Int32)) (x1 : Int32) (post : Int32 → Prop) (hB : mx_B p m c cX1_heightOf 4 s args RX1 E) (hP : va_P E.1 vwCl (w_X1_heightOf E a_t a_kind a_weight a_strength a_height a_folk a_mustBeAbove a_wind v_storeys v_pairs v_bears v_soft v_cellars v_height) s.heap) (hRet : ∀ (v : Int32) (pc : Nat) (ls : Array Slot), decode cX1_heightOf pc = .ok (.ireturn, 1) → post v → W p l e rm_X1_heightOf s m args below meth c s.heap [] 0 0 Q (F0 m pc ls [.int v])) (hf : f_X1_heightOf v_storeys v_height x1 post) (ls : Array Slot) (hl : lv_has ls 4 [(0, .ref a_t), (1, .int x1)]) : W p l e rm_X1_heightOf s m args below meth c s.heap [] 0 0 Q (F0 m 0 ls []) := by
  have hx := hB.x
  have hb := hB.b
  have L_4 : ∀ (g4_x1 : Int32) (n : Nat) (j4_x2 : Int32) (j4_x3 : Int32) (ls : Array Slot), mx_l2 (f_X1_heightOf_4 v_storeys v_height post g4_x1) n j4_x2 j4_x3 → lv_has ls 4 [(0, .ref a_t), (1, .int g4_x1), (2, .int j4_x2), (3, .int j4_x3)] → W p l e rm_X1_heightOf s m args below meth c s.heap [] 0 0 Q (F0 m 4 ls []) := by
    intro g4_x1 n_4
    induction n_4 with
    | zero =>
      intro j4_x2 j4_x3 ls hf hl
      exact False.elim hf
    | succ n_4 ih_4 =>
      intro j4_x2 j4_x3 ls hf hl
      replace hf : f_X1_heightOf_4 v_storeys v_height post g4_x1 (mx_l2 (f_X1_heightOf_4 v_storeys v_height post g4_x1) n_4) j4_x2 j4_x3 := hf
      refine lv_iload_n hx hb dX1_heightOf_4 rfl (lv_at hl 3 rfl) ?_
      refine lv_aload_n hx hb dX1_heightOf_5 rfl (lv_at hl 0 rfl) ?_
      refine gf_X1_36 hB hP 0 rfl rfl dX1_heightOf_6 ?_
      refine lv_icmp_ge (tgt := 36) hx hb dX1_heightOf_9 (by decide) (fun c9 => ?_) (fun c9 => ?_)
      · have hf := hf.1 c9
        refine lv_iload_n hx hb dX1_heightOf_36 rfl (lv_at hl 2 rfl) ?_
        exact hRet j4_x2 37 ls dX1_heightOf_37 hf
      · have hf := hf.2 c9
        refine lv_iload_n hx hb dX1_heightOf_12 rfl (lv_at hl 1 rfl) ?_
        refine lv_iload_n hx hb dX1_heightOf_13 rfl (lv_at hl 3 rfl) ?_
        refine lv_ishr hx hb dX1_heightOf_14 ?_
        refine lv_iconst hx hb dX1_heightOf_15 kc_i_1 ?_
        refine lv_iand hx hb dX1_heightOf_16 ?_
        refine lv_iconst hx hb dX1_heightOf_17 kc_i_1 ?_
        refine lv_icmp_ne (tgt := 30) hx hb dX1_heightOf_18 (by decide) (fun c18 => ?_) (fun c18 => ?_)
        · have hf := hf.1 c18
          refine lv_iinc (v := j4_x3 + 1) (lv' := [(3, .int (j4_x3 + 1)), (0, .ref a_t), (1, .int g4_x1), (2, .int j4_x2)]) hx hb dX1_heightOf_30 hl (k := 3) rfl (by rw [kc_i_1]) (by decide) rfl (fun ls hl => ?_)
          refine lv_goto (tgt := 4) hx hb dX1_heightOf_33 (by decide) ?_
          exact ih_4 j4_x2 (j4_x3 + 1) ls hf (lv_sub hl [1, 2, 3, 0] rfl)
        · have hf := hf.2 c18
          refine lv_iload_n hx hb dX1_heightOf_21 rfl (lv_at hl 2 rfl) ?_
          refine lv_aload_n hx hb dX1_heightOf_22 rfl (lv_at hl 0 rfl) ?_
          refine gf_X1_21 hB hP 0 rfl rfl dX1_heightOf_23 ?_
          refine lv_iload_n hx hb dX1_heightOf_26 rfl (lv_at hl 3 rfl) ?_
          obtain ⟨h_in, hf⟩ := hf
          refine va_iald hx hb hB.K hP 1 0 rfl rfl h_in dX1_heightOf_27 ?_
          refine lv_iadd hx hb dX1_heightOf_28 ?_
          refine lv_istore_n (lv' := [(2, .int (j4_x2 + (v_height j4_x3.toNatClampNeg))), (0, .ref a_t), (1, .int g4_x1), (3, .int j4_x3)]) hx hb dX1_heightOf_29 rfl hl (by decide) rfl (fun ls hl => ?_)
          refine lv_iinc (v := j4_x3 + 1) (lv' := [(3, .int (j4_x3 + 1)), (2, .int (j4_x2 + (v_height j4_x3.toNatClampNeg))), (0, .ref a_t), (1, .int g4_x1)]) hx hb dX1_heightOf_30 hl (k := 3) rfl (by rw [kc_i_1]) (by decide) rfl (fun ls hl => ?_)
          refine lv_goto (tgt := 4) hx hb dX1_heightOf_33 (by decide) ?_
          exact ih_4 (j4_x2 + (v_height j4_x3.toNatClampNeg)) (j4_x3 + 1) ls hf (lv_sub hl [2, 3, 1, 0] rfl)
  refine lv_iconst hx hb dX1_heightOf_0 kc_i_0 ?_
  refine lv_istore_n (lv' := [(2, .int 0), (0, .ref a_t), (1, .int x1)]) hx hb dX1_heightOf_1 rfl hl (by decide) rfl (fun ls hl => ?_)
  refine lv_iconst hx hb dX1_heightOf_2 kc_i_0 ?_
  refine lv_istore_n (lv' := [(3, .int 0), (2, .int 0), (0, .ref a_t), (1, .int x1)]) hx hb dX1_heightOf_3 rfl hl (by decide) rfl (fun ls hl => ?_)
  obtain ⟨n9, hf⟩ := hf
  exact L_4 x1 n9 0 0 ls hf (lv_sub hl [2, 3, 1, 0] rfl)
theorem c_X1_heightOf (l : Launch) (E : mx_E) (a_t : Nat) (a_kind : Nat) (a_weight : Nat) (a_strength : Nat) (a_height : Nat) (a_folk : Nat) (a_mustBeAbove : Nat) (a_wind : Nat) (v_storeys : Int32) (v_pairs : Int32) (v_bears : Int32) (v_soft : Int32) (v_cellars : Int32) (v_height : (Nat → Int32)) (x1 : Int32) (post : Int32 → Prop) (hf : f_X1_heightOf v_storeys v_height x1 post) : Met l yX1_heightOf (Cond.code yX1_heightOf cX1_heightOf 4 (some .int) :: mx_WS) rm_X1_heightOf (va_Pc [.ref a_t, .int x1] (mx_Pp E (w_X1_heightOf E a_t a_kind a_weight a_strength a_height a_folk a_mustBeAbove a_wind v_storeys v_pairs v_bears v_soft v_cellars v_height))) (vp_Si post) 0 0 (fun _ => False) :=
  mx_metPi (by decide) rfl rfl (fun hB hP hRet ls hl => b_X1_heightOf E a_t a_kind a_weight a_strength a_height a_folk a_mustBeAbove a_wind v_storeys v_pairs v_bears v_soft v_cellars v_height x1 post hB hP hRet hf ls hl)
def rm_X1_windOf : Room := { frames := 0, cells := 0, slots := 0, locals := 0 }
set_option maxHeartbeats 4000000 in
set_option maxRecDepth 100000 in
theorem b_X1_windOf {p : Program} {l : Launch} {e : Env} {s : State} {m : MethodId} {args : Array Value} {below : List Frame} {meth : Method} {c : Code} {Q : State → Prop} (E : mx_E) (a_t : Nat) (a_kind : Nat) (a_weight : Nat) (a_strength : Nat) (a_height : Nat) (a_folk : Nat) (a_mustBeAbove : Nat) (a_wind : Nat) (v_storeys : Int32) (v_pairs : Int32) (v_bears : Int32) (v_soft : Int32) (v_cellars : Int32) (v_wind : (Nat → Int32)) (x1 : Int32) (post : Int32 → Prop) (hB : mx_B p m c cX1_windOf 2 s args RX1 E) (hP : va_P E.1 vwCl (w_X1_windOf E a_t a_kind a_weight a_strength a_height a_folk a_mustBeAbove a_wind v_storeys v_pairs v_bears v_soft v_cellars v_wind) s.heap) (hRet : ∀ (v : Int32) (pc : Nat) (ls : Array Slot), decode cX1_windOf pc = .ok (.ireturn, 1) → post v → W p l e rm_X1_windOf s m args below meth c s.heap [] 0 0 Q (F0 m pc ls [.int v])) (hf : f_X1_windOf v_wind x1 post) (ls : Array Slot) (hl : lv_has ls 2 [(0, .ref a_t), (1, .int x1)]) : W p l e rm_X1_windOf s m args below meth c s.heap [] 0 0 Q (F0 m 0 ls []) := by
  have hx := hB.x
  have hb := hB.b
  refine lv_iload_n hx hb dX1_windOf_0 rfl (lv_at hl 1 rfl) ?_
  refine lv_if_lt (tgt := 19) hx hb dX1_windOf_1 (by decide) (fun c1 => ?_) (fun c1 => ?_)
  · have hf := hf.1 c1
    refine lv_iconst hx hb dX1_windOf_19 kc_i_0 ?_
    exact hRet 0 20 ls dX1_windOf_20 hf
  · have hf := hf.2 c1
    refine lv_iload_n hx hb dX1_windOf_4 rfl (lv_at hl 1 rfl) ?_
    refine lv_bipush hx hb dX1_windOf_5 kc_b_40 ?_
    refine lv_icmp_ge (tgt := 19) hx hb dX1_windOf_7 (by decide) (fun c7 => ?_) (fun c7 => ?_)
    · have hf := hf.1 c7
      refine lv_iconst hx hb dX1_windOf_19 kc_i_0 ?_
      exact hRet 0 20 ls dX1_windOf_20 hf
    · have hf := hf.2 c7
      refine lv_aload_n hx hb dX1_windOf_10 rfl (lv_at hl 0 rfl) ?_
      refine gf_X1_30 hB hP 0 rfl rfl dX1_windOf_11 ?_
      refine lv_iload_n hx hb dX1_windOf_14 rfl (lv_at hl 1 rfl) ?_
      obtain ⟨h_in, hf⟩ := hf
      refine va_iald hx hb hB.K hP 1 0 rfl rfl h_in dX1_windOf_15 ?_
      refine lv_goto (tgt := 20) hx hb dX1_windOf_16 (by decide) ?_
      exact hRet (v_wind x1.toNatClampNeg) 20 ls dX1_windOf_20 hf
theorem c_X1_windOf (l : Launch) (E : mx_E) (a_t : Nat) (a_kind : Nat) (a_weight : Nat) (a_strength : Nat) (a_height : Nat) (a_folk : Nat) (a_mustBeAbove : Nat) (a_wind : Nat) (v_storeys : Int32) (v_pairs : Int32) (v_bears : Int32) (v_soft : Int32) (v_cellars : Int32) (v_wind : (Nat → Int32)) (x1 : Int32) (post : Int32 → Prop) (hf : f_X1_windOf v_wind x1 post) : Met l yX1_windOf (Cond.code yX1_windOf cX1_windOf 2 (some .int) :: mx_WS) rm_X1_windOf (va_Pc [.ref a_t, .int x1] (mx_Pp E (w_X1_windOf E a_t a_kind a_weight a_strength a_height a_folk a_mustBeAbove a_wind v_storeys v_pairs v_bears v_soft v_cellars v_wind))) (vp_Si post) 0 0 (fun _ => False) :=
  mx_metPi (by decide) rfl rfl (fun hB hP hRet ls hl => b_X1_windOf E a_t a_kind a_weight a_strength a_height a_folk a_mustBeAbove a_wind v_storeys v_pairs v_bears v_soft v_cellars v_wind x1 post hB hP hRet hf ls hl)
def rm_J6_bitCount_0f7a4 : Room := { frames := 0, cells := 0, slots := 0, locals := 0 }
set_option maxHeartbeats 4000000 in
set_option maxRecDepth 100000 in
theorem b_J6_bitCount_0f7a4 {p : Program} {l : Launch} {e : Env} {s : State} {m : MethodId} {args : Array Value} {below : List Frame} {meth : Method} {c : Code} {Q : State → Prop} (E : mx_E)   (x0 : Int32) (post : Int32 → Prop) (hB : mx_B p m c cJ6_bitCount_0f7a4 1 s args RJ6 E) (hP : va_P E.1 vwCl (w_J6_bitCount_0f7a4 E ) s.heap) (hRet : ∀ (v : Int32) (pc : Nat) (ls : Array Slot), decode cJ6_bitCount_0f7a4 pc = .ok (.ireturn, 1) → post v → W p l e rm_J6_bitCount_0f7a4 s m args below meth c s.heap [] 0 0 Q (F0 m pc ls [.int v])) (hf : f_J6_bitCount_0f7a4 x0 post) (ls : Array Slot) (hl : lv_has ls 1 [(0, .int x0)]) : W p l e rm_J6_bitCount_0f7a4 s m args below meth c s.heap [] 0 0 Q (F0 m 0 ls []) := by
  have hx := hB.x
  have hb := hB.b
  refine lv_iload_n hx hb dJ6_bitCount_0f7a4_0 rfl (lv_at hl 0 rfl) ?_
  refine lv_iload_n hx hb dJ6_bitCount_0f7a4_1 rfl (lv_at hl 0 rfl) ?_
  refine lv_iconst hx hb dJ6_bitCount_0f7a4_2 kc_i_1 ?_
  refine lv_iushr hx hb dJ6_bitCount_0f7a4_3 rfl ?_
  refine lv_ldcw hx hb hB.o (hB.w wci_J6_265) dJ6_bitCount_0f7a4_4 ?_
  refine lv_iand hx hb dJ6_bitCount_0f7a4_7 ?_
  refine lv_isub hx hb dJ6_bitCount_0f7a4_8 ?_
  refine lv_topi (fun z1 ez1 => ?_)
  have hf := hf z1 ez1
  refine lv_istore_n (lv' := [(0, .int z1)]) hx hb dJ6_bitCount_0f7a4_9 rfl hl (by decide) rfl (fun ls hl => ?_)
  refine lv_iload_n hx hb dJ6_bitCount_0f7a4_10 rfl (lv_at hl 0 rfl) ?_
  refine lv_ldcw hx hb hB.o (hB.w wci_J6_266) dJ6_bitCount_0f7a4_11 ?_
  refine lv_iand hx hb dJ6_bitCount_0f7a4_14 ?_
  refine lv_iload_n hx hb dJ6_bitCount_0f7a4_15 rfl (lv_at hl 0 rfl) ?_
  refine lv_iconst hx hb dJ6_bitCount_0f7a4_16 kc_i_2 ?_
  refine lv_iushr hx hb dJ6_bitCount_0f7a4_17 rfl ?_
  refine lv_ldcw hx hb hB.o (hB.w wci_J6_266) dJ6_bitCount_0f7a4_18 ?_
  refine lv_iand hx hb dJ6_bitCount_0f7a4_21 ?_
  refine lv_iadd hx hb dJ6_bitCount_0f7a4_22 ?_
  refine lv_topi (fun z2 ez2 => ?_)
  have hf := hf z2 ez2
  refine lv_istore_n (lv' := [(0, .int z2)]) hx hb dJ6_bitCount_0f7a4_23 rfl hl (by decide) rfl (fun ls hl => ?_)
  refine lv_iload_n hx hb dJ6_bitCount_0f7a4_24 rfl (lv_at hl 0 rfl) ?_
  refine lv_iload_n hx hb dJ6_bitCount_0f7a4_25 rfl (lv_at hl 0 rfl) ?_
  refine lv_iconst hx hb dJ6_bitCount_0f7a4_26 kc_i_4 ?_
  refine lv_iushr hx hb dJ6_bitCount_0f7a4_27 rfl ?_
  refine lv_iadd hx hb dJ6_bitCount_0f7a4_28 ?_
  refine lv_ldcw hx hb hB.o (hB.w wci_J6_267) dJ6_bitCount_0f7a4_29 ?_
  refine lv_iand hx hb dJ6_bitCount_0f7a4_32 ?_
  refine lv_topi (fun z3 ez3 => ?_)
  have hf := hf z3 ez3
  refine lv_istore_n (lv' := [(0, .int z3)]) hx hb dJ6_bitCount_0f7a4_33 rfl hl (by decide) rfl (fun ls hl => ?_)
  refine lv_iload_n hx hb dJ6_bitCount_0f7a4_34 rfl (lv_at hl 0 rfl) ?_
  refine lv_iload_n hx hb dJ6_bitCount_0f7a4_35 rfl (lv_at hl 0 rfl) ?_
  refine lv_bipush hx hb dJ6_bitCount_0f7a4_36 kc_b_8 ?_
  refine lv_iushr hx hb dJ6_bitCount_0f7a4_38 rfl ?_
  refine lv_iadd hx hb dJ6_bitCount_0f7a4_39 ?_
  refine lv_istore_n (lv' := [(0, .int (z3 + ((z3.toUInt32 >>> ((8 : Int32).toUInt32 &&& Int32.toUInt32 31)).toInt32)))]) hx hb dJ6_bitCount_0f7a4_40 rfl hl (by decide) rfl (fun ls hl => ?_)
  refine lv_iload_n hx hb dJ6_bitCount_0f7a4_41 rfl (lv_at hl 0 rfl) ?_
  refine lv_iload_n hx hb dJ6_bitCount_0f7a4_42 rfl (lv_at hl 0 rfl) ?_
  refine lv_bipush hx hb dJ6_bitCount_0f7a4_43 kc_b_16 ?_
  refine lv_iushr hx hb dJ6_bitCount_0f7a4_45 rfl ?_
  refine lv_iadd hx hb dJ6_bitCount_0f7a4_46 ?_
  refine lv_topi (fun z4 ez4 => ?_)
  have hf := hf z4 ez4
  refine lv_istore_n (lv' := [(0, .int z4)]) hx hb dJ6_bitCount_0f7a4_47 rfl hl (by decide) rfl (fun ls hl => ?_)
  refine lv_iload_n hx hb dJ6_bitCount_0f7a4_48 rfl (lv_at hl 0 rfl) ?_
  refine lv_bipush hx hb dJ6_bitCount_0f7a4_49 kc_b_63 ?_
  refine lv_iand hx hb dJ6_bitCount_0f7a4_51 ?_
  exact hRet (z4 &&& 63) 52 ls dJ6_bitCount_0f7a4_52 hf
theorem c_J6_bitCount_0f7a4 (l : Launch) (E : mx_E)   (x0 : Int32) (post : Int32 → Prop) (hf : f_J6_bitCount_0f7a4 x0 post) : Met l yJ6_bitCount_0f7a4 (Cond.code yJ6_bitCount_0f7a4 cJ6_bitCount_0f7a4 1 (some .int) :: mx_WS) rm_J6_bitCount_0f7a4 (va_Pc [.int x0] (mx_Pp E (w_J6_bitCount_0f7a4 E ))) (vp_Si post) 0 0 (fun _ => False) :=
  mx_metPi (by decide) rfl rfl (fun hB hP hRet ls hl => b_J6_bitCount_0f7a4 E  x0 post hB hP hRet hf ls hl)
def rm_X1_hasPlace : Room := { frames := 1, cells := 0, slots := 0, locals := 20 }
set_option maxHeartbeats 4000000 in
set_option maxRecDepth 100000 in
theorem b_X1_hasPlace {p : Program} {l : Launch} {e : Env} {s : State} {m : MethodId} {args : Array Value} {below : List Frame} {meth : Method} {c : Code} {Q : State → Prop} (E : mx_E) (a_t : Nat) (a_kind : Nat) (a_weight : Nat) (a_strength : Nat) (a_height : Nat) (a_folk : Nat) (a_mustBeAbove : Nat) (a_wind : Nat) (v_storeys : Int32) (v_pairs : Int32) (v_bears : Int32) (v_soft : Int32) (v_cellars : Int32) (v_kind : (Nat → Int32)) (v_mustBeAbove : (Nat → Int32)) (x1 : Int32) (x2 : Int32) (post : Int32 → Prop) (hB : mx_B p m c cX1_hasPlace 3 s args RX1 E) (hP : va_P E.1 vwCl (w_X1_hasPlace E a_t a_kind a_weight a_strength a_height a_folk a_mustBeAbove a_wind v_storeys v_pairs v_bears v_soft v_cellars v_kind v_mustBeAbove) s.heap) (hRet : ∀ (v : Int32) (pc : Nat) (ls : Array Slot), decode cX1_hasPlace pc = .ok (.ireturn, 1) → (v = 0 ∨ v = 1) → post v → W p l e rm_X1_hasPlace s m args below meth c s.heap [] 0 0 Q (F0 m pc ls [.int v])) (hf : f_X1_hasPlace v_kind v_cellars v_mustBeAbove x1 x2 post) (ls : Array Slot) (hl : lv_has ls 3 [(0, .ref a_t), (1, .int x1), (2, .int x2)]) : W p l e rm_X1_hasPlace s m args below meth c s.heap [] 0 0 Q (F0 m 0 ls []) := by
  have hx := hB.x
  have hb := hB.b
  have J_47 : ∀ (j47_x1 : Int32) (j47_x2 : Int32) (ls : Array Slot), f_X1_hasPlace_47 v_kind v_cellars v_mustBeAbove post j47_x1 j47_x2 → lv_has ls 3 [(0, .ref a_t), (1, .int j47_x1), (2, .int j47_x2)] → W p l e rm_X1_hasPlace s m args below meth c s.heap [] 0 0 Q (F0 m 47 ls []) := by
    intro j47_x1 j47_x2 ls hf hl
    refine lv_aload_n hx hb dX1_hasPlace_47 rfl (lv_at hl 0 rfl) ?_
    refine gf_X1_27 hB hP 0 rfl rfl dX1_hasPlace_48 ?_
    refine lv_iload_n hx hb dX1_hasPlace_51 rfl (lv_at hl 1 rfl) ?_
    obtain ⟨h_in, hf⟩ := hf
    refine va_iald hx hb hB.K hP 2 0 rfl rfl h_in dX1_hasPlace_52 ?_
    refine lv_iload_n hx hb dX1_hasPlace_53 rfl (lv_at hl 2 rfl) ?_
    refine lv_iconst hx hb dX1_hasPlace_54 kc_i_m1 ?_
    refine lv_ixor hx hb dX1_hasPlace_55 ?_
    refine lv_iand hx hb dX1_hasPlace_56 ?_
    refine lv_if_ne (tgt := 64) hx hb dX1_hasPlace_57 (by decide) (fun c57 => ?_) (fun c57 => ?_)
    · have hf := hf.1 c57
      refine lv_iconst hx hb dX1_hasPlace_64 kc_i_0 ?_
      exact hRet 0 65 ls dX1_hasPlace_65 (Or.inl rfl) hf
    · have hf := hf.2 c57
      refine lv_iconst hx hb dX1_hasPlace_60 kc_i_1 ?_
      refine lv_goto (tgt := 65) hx hb dX1_hasPlace_61 (by decide) ?_
      exact hRet 1 65 ls dX1_hasPlace_65 (Or.inr rfl) hf
  have J_16 : ∀ (j16_x1 : Int32) (j16_x2 : Int32) (ls : Array Slot), f_X1_hasPlace_16 v_kind v_cellars v_mustBeAbove post j16_x1 j16_x2 → lv_has ls 3 [(0, .ref a_t), (1, .int j16_x1), (2, .int j16_x2)] → W p l e rm_X1_hasPlace s m args below meth c s.heap [] 0 0 Q (F0 m 16 ls []) := by
    intro j16_x1 j16_x2 ls hf hl
    refine lv_aload_n hx hb dX1_hasPlace_16 rfl (lv_at hl 0 rfl) ?_
    refine gf_X1_49 hB hP 0 rfl rfl dX1_hasPlace_17 ?_
    refine lv_iload_n hx hb dX1_hasPlace_20 rfl (lv_at hl 2 rfl) ?_
    refine lv_iand hx hb dX1_hasPlace_21 ?_
    refine lv_if_eq (tgt := 27) hx hb dX1_hasPlace_22 (by decide) (fun c22 => ?_) (fun c22 => ?_)
    · have hf := hf.1 c22
      refine lv_aload_n hx hb dX1_hasPlace_27 rfl (lv_at hl 0 rfl) ?_
      refine gf_X1_9 hB hP 0 rfl rfl dX1_hasPlace_28 ?_
      refine lv_iload_n hx hb dX1_hasPlace_31 rfl (lv_at hl 1 rfl) ?_
      obtain ⟨h_in, hf⟩ := hf
      refine va_iald hx hb hB.K hP 1 0 rfl rfl h_in dX1_hasPlace_32 ?_
      refine lv_iconst hx hb dX1_hasPlace_33 kc_i_3 ?_
      refine lv_icmp_ne (tgt := 47) hx hb dX1_hasPlace_34 (by decide) (fun c34 => ?_) (fun c34 => ?_)
      · have hf := hf.1 c34
        exact J_47 j16_x1 j16_x2 ls hf (lv_sub hl [0, 1, 2] rfl)
      · have hf := hf.2 c34
        refine lv_iload_n hx hb dX1_hasPlace_37 rfl (lv_at hl 2 rfl) ?_
        refine mx_gi (mx_runS (As := [.int j16_x2]) (rest := []) hB (c_J6_bitCount_0f7a4 l E j16_x2 _ hf) sB_J6_bitCount_0f7a4 wst_J6_bitCount_0f7a4 wml_X1_70 rfl (mx_pp hB hP [] rfl) hl.1 rfl (Nat.le_of_ble_eq_true rfl) dX1_hasPlace_38 ⟨Nat.zero_le _, Nat.zero_le _⟩) (fun r1 hf => ?_)
        refine lv_iconst hx hb dX1_hasPlace_41 kc_i_3 ?_
        refine lv_icmp_lt (tgt := 47) hx hb dX1_hasPlace_42 (by decide) (fun c42 => ?_) (fun c42 => ?_)
        · have hf := hf.1 c42
          exact J_47 j16_x1 j16_x2 ls hf (lv_sub hl [0, 1, 2] rfl)
        · have hf := hf.2 c42
          refine lv_iconst hx hb dX1_hasPlace_45 kc_i_0 ?_
          exact hRet 0 46 ls dX1_hasPlace_46 (Or.inl rfl) hf
    · have hf := hf.2 c22
      refine lv_iconst hx hb dX1_hasPlace_25 kc_i_0 ?_
      exact hRet 0 26 ls dX1_hasPlace_26 (Or.inl rfl) hf
  refine lv_aload_n hx hb dX1_hasPlace_0 rfl (lv_at hl 0 rfl) ?_
  refine gf_X1_9 hB hP 0 rfl rfl dX1_hasPlace_1 ?_
  refine lv_iload_n hx hb dX1_hasPlace_4 rfl (lv_at hl 1 rfl) ?_
  obtain ⟨h_in, hf⟩ := hf
  refine va_iald hx hb hB.K hP 1 0 rfl rfl h_in dX1_hasPlace_5 ?_
  refine lv_iconst hx hb dX1_hasPlace_6 kc_i_1 ?_
  refine lv_icmp_ne (tgt := 16) hx hb dX1_hasPlace_7 (by decide) (fun c7 => ?_) (fun c7 => ?_)
  · have hf := hf.1 c7
    exact J_16 x1 x2 ls hf (lv_sub hl [0, 1, 2] rfl)
  · have hf := hf.2 c7
    refine lv_iload_n hx hb dX1_hasPlace_10 rfl (lv_at hl 2 rfl) ?_
    refine lv_if_eq (tgt := 16) hx hb dX1_hasPlace_11 (by decide) (fun c11 => ?_) (fun c11 => ?_)
    · have hf := hf.1 c11
      exact J_16 x1 x2 ls hf (lv_sub hl [0, 1, 2] rfl)
    · have hf := hf.2 c11
      refine lv_iconst hx hb dX1_hasPlace_14 kc_i_0 ?_
      exact hRet 0 15 ls dX1_hasPlace_15 (Or.inl rfl) hf
theorem c_X1_hasPlace (l : Launch) (E : mx_E) (a_t : Nat) (a_kind : Nat) (a_weight : Nat) (a_strength : Nat) (a_height : Nat) (a_folk : Nat) (a_mustBeAbove : Nat) (a_wind : Nat) (v_storeys : Int32) (v_pairs : Int32) (v_bears : Int32) (v_soft : Int32) (v_cellars : Int32) (v_kind : (Nat → Int32)) (v_mustBeAbove : (Nat → Int32)) (x1 : Int32) (x2 : Int32) (post : Int32 → Prop) (hf : f_X1_hasPlace v_kind v_cellars v_mustBeAbove x1 x2 post) : Met l yX1_hasPlace (Cond.code yX1_hasPlace cX1_hasPlace 3 (some .boolean) :: mx_WS) rm_X1_hasPlace (va_Pc [.ref a_t, .int x1, .int x2] (mx_Pp E (w_X1_hasPlace E a_t a_kind a_weight a_strength a_height a_folk a_mustBeAbove a_wind v_storeys v_pairs v_bears v_soft v_cellars v_kind v_mustBeAbove))) (vp_Si post) 0 0 (fun _ => False) :=
  mx_metPz (by decide) rfl rfl (fun hB hP hRet ls hl => b_X1_hasPlace E a_t a_kind a_weight a_strength a_height a_folk a_mustBeAbove a_wind v_storeys v_pairs v_bears v_soft v_cellars v_kind v_mustBeAbove x1 x2 post hB hP hRet hf ls hl)
def rm_X1_whyNot : Room := { frames := 2, cells := 0, slots := 0, locals := 42 }
set_option maxHeartbeats 4000000 in
set_option maxRecDepth 100000 in
theorem b_X1_whyNot {p : Program} {l : Launch} {e : Env} {s : State} {m : MethodId} {args : Array Value} {below : List Frame} {meth : Method} {c : Code} {Q : State → Prop} (E : mx_E) (a_t : Nat) (a_kind : Nat) (a_weight : Nat) (a_strength : Nat) (a_height : Nat) (a_folk : Nat) (a_mustBeAbove : Nat) (a_wind : Nat) (v_storeys : Int32) (v_pairs : Int32) (v_bears : Int32) (v_soft : Int32) (v_cellars : Int32) (v_kind : (Nat → Int32)) (v_mustBeAbove : (Nat → Int32)) (v_strength : (Nat → Int32)) (x1 : Int32) (x2 : Int32) (x3 : Int32) (x4 : Int32) (post : Int32 → Prop) (hB : mx_B p m c cX1_whyNot 5 s args RX1 E) (hP : va_P E.1 vwCl (w_X1_whyNot E a_t a_kind a_weight a_strength a_height a_folk a_mustBeAbove a_wind v_storeys v_pairs v_bears v_soft v_cellars v_kind v_mustBeAbove v_strength) s.heap) (hRet : ∀ (v : Int32) (pc : Nat) (ls : Array Slot), decode cX1_whyNot pc = .ok (.ireturn, 1) → post v → W p l e rm_X1_whyNot s m args below meth c s.heap [] 0 0 Q (F0 m pc ls [.int v])) (hf : f_X1_whyNot v_kind v_cellars v_mustBeAbove v_strength x1 x2 x3 x4 post) (ls : Array Slot) (hl : lv_has ls 5 [(0, .ref a_t), (1, .int x1), (2, .int x2), (3, .int x3), (4, .int x4)]) : W p l e rm_X1_whyNot s m args below meth c s.heap [] 0 0 Q (F0 m 0 ls []) := by
  have hx := hB.x
  have hb := hB.b
  refine lv_iload_n hx hb dX1_whyNot_0 rfl (lv_at hl 2 rfl) ?_
  refine lv_iload_n hx hb dX1_whyNot_1 rfl (lv_at hl 1 rfl) ?_
  refine lv_ishr hx hb dX1_whyNot_2 ?_
  refine lv_iconst hx hb dX1_whyNot_3 kc_i_1 ?_
  refine lv_iand hx hb dX1_whyNot_4 ?_
  refine lv_iconst hx hb dX1_whyNot_5 kc_i_1 ?_
  refine lv_icmp_ne (tgt := 11) hx hb dX1_whyNot_6 (by decide) (fun c6 => ?_) (fun c6 => ?_)
  · have hf := hf.1 c6
    refine lv_aload_n hx hb dX1_whyNot_11 rfl (lv_at hl 0 rfl) ?_
    refine lv_iload_n hx hb dX1_whyNot_12 rfl (lv_at hl 1 rfl) ?_
    refine lv_iload_n hx hb dX1_whyNot_13 rfl (lv_at hl 2 rfl) ?_
    refine mx_gi (mx_runV (As := [.int x1, .int x2]) (rest := []) hB (c_X1_hasPlace l E a_t a_kind a_weight a_strength a_height a_folk a_mustBeAbove a_wind v_storeys v_pairs v_bears v_soft v_cellars v_kind v_mustBeAbove x1 x2 _ hf) sB_X1_hasPlace sV_X1_hasPlace wml_X1_66 rfl (mx_ppV hB hP [0, 1, 2] rfl 1 rfl rfl rfl) hl.1 rfl (Nat.le_of_ble_eq_true rfl) dX1_whyNot_14 ⟨Nat.zero_le _, Nat.zero_le _⟩) (fun r1 hf => ?_)
    refine lv_if_ne (tgt := 22) hx hb dX1_whyNot_17 (by decide) (fun c17 => ?_) (fun c17 => ?_)
    · have hf := hf.1 c17
      refine lv_aload_n hx hb dX1_whyNot_22 rfl (lv_at hl 0 rfl) ?_
      refine gf_X1_18 hB hP 0 rfl rfl dX1_whyNot_23 ?_
      refine lv_iload_n hx hb dX1_whyNot_26 rfl (lv_at hl 1 rfl) ?_
      obtain ⟨h_in, hf⟩ := hf
      refine va_iald hx hb hB.K hP 3 0 rfl rfl h_in dX1_whyNot_27 ?_
      refine lv_iload_n hx hb dX1_whyNot_28 rfl (lv_at hl 3 rfl) ?_
      refine lv_icmp_ge (tgt := 34) hx hb dX1_whyNot_29 (by decide) (fun c29 => ?_) (fun c29 => ?_)
      · have hf := hf.1 c29
        refine lv_iload hx hb dX1_whyNot_34 (lv_at hl 4 rfl) ?_
        refine lv_iload_n hx hb dX1_whyNot_36 rfl (lv_at hl 3 rfl) ?_
        refine lv_icmp_ge (tgt := 44) hx hb dX1_whyNot_37 (by decide) (fun c37 => ?_) (fun c37 => ?_)
        · have hf := hf.1 c37
          refine lv_iconst hx hb dX1_whyNot_44 kc_i_0 ?_
          exact hRet 0 45 ls dX1_whyNot_45 hf
        · have hf := hf.2 c37
          refine lv_iconst hx hb dX1_whyNot_40 kc_i_4 ?_
          refine lv_goto (tgt := 45) hx hb dX1_whyNot_41 (by decide) ?_
          exact hRet 4 45 ls dX1_whyNot_45 hf
      · have hf := hf.2 c29
        refine lv_iconst hx hb dX1_whyNot_32 kc_i_3 ?_
        exact hRet 3 33 ls dX1_whyNot_33 hf
    · have hf := hf.2 c17
      refine lv_iconst hx hb dX1_whyNot_20 kc_i_2 ?_
      exact hRet 2 21 ls dX1_whyNot_21 hf
  · have hf := hf.2 c6
    refine lv_iconst hx hb dX1_whyNot_9 kc_i_1 ?_
    exact hRet 1 10 ls dX1_whyNot_10 hf
theorem c_X1_whyNot (l : Launch) (E : mx_E) (a_t : Nat) (a_kind : Nat) (a_weight : Nat) (a_strength : Nat) (a_height : Nat) (a_folk : Nat) (a_mustBeAbove : Nat) (a_wind : Nat) (v_storeys : Int32) (v_pairs : Int32) (v_bears : Int32) (v_soft : Int32) (v_cellars : Int32) (v_kind : (Nat → Int32)) (v_mustBeAbove : (Nat → Int32)) (v_strength : (Nat → Int32)) (x1 : Int32) (x2 : Int32) (x3 : Int32) (x4 : Int32) (post : Int32 → Prop) (hf : f_X1_whyNot v_kind v_cellars v_mustBeAbove v_strength x1 x2 x3 x4 post) : Met l yX1_whyNot (Cond.code yX1_whyNot cX1_whyNot 5 (some .int) :: mx_WS) rm_X1_whyNot (va_Pc [.ref a_t, .int x1, .int x2, .int x3, .int x4] (mx_Pp E (w_X1_whyNot E a_t a_kind a_weight a_strength a_height a_folk a_mustBeAbove a_wind v_storeys v_pairs v_bears v_soft v_cellars v_kind v_mustBeAbove v_strength))) (vp_Si post) 0 0 (fun _ => False) :=
  mx_metPi (by decide) rfl rfl (fun hB hP hRet ls hl => b_X1_whyNot E a_t a_kind a_weight a_strength a_height a_folk a_mustBeAbove a_wind v_storeys v_pairs v_bears v_soft v_cellars v_kind v_mustBeAbove v_strength x1 x2 x3 x4 post hB hP hRet hf ls hl)
def rm_X1_whyNotOn : Room := { frames := 3, cells := 0, slots := 0, locals := 66 }
set_option maxHeartbeats 4000000 in
set_option maxRecDepth 100000 in
theorem b_X1_whyNotOn {p : Program} {l : Launch} {e : Env} {s : State} {m : MethodId} {args : Array Value} {below : List Frame} {meth : Method} {c : Code} {Q : State → Prop} (E : mx_E) (a_t : Nat) (a_kind : Nat) (a_weight : Nat) (a_strength : Nat) (a_height : Nat) (a_folk : Nat) (a_mustBeAbove : Nat) (a_wind : Nat) (v_storeys : Int32) (v_pairs : Int32) (v_bears : Int32) (v_soft : Int32) (v_cellars : Int32) (v_weight : (Nat → Int32)) (v_folk : (Nat → Int32)) (v_kind : (Nat → Int32)) (v_mustBeAbove : (Nat → Int32)) (v_strength : (Nat → Int32)) (v_wind : (Nat → Int32)) (x1 : Int32) (x2 : Int32) (x3 : Int32) (post : Int32 → Prop) (hB : mx_B p m c cX1_whyNotOn 5 s args RX1 E) (hP : va_P E.1 vwCl (w_X1_whyNotOn E a_t a_kind a_weight a_strength a_height a_folk a_mustBeAbove a_wind v_storeys v_pairs v_bears v_soft v_cellars v_weight v_folk v_kind v_mustBeAbove v_strength v_wind) s.heap) (hRet : ∀ (v : Int32) (pc : Nat) (ls : Array Slot), decode cX1_whyNotOn pc = .ok (.ireturn, 1) → post v → W p l e rm_X1_whyNotOn s m args below meth c s.heap [] 0 0 Q (F0 m pc ls [.int v])) (hf : f_X1_whyNotOn v_storeys v_weight v_folk v_bears v_kind v_cellars v_mustBeAbove v_strength v_wind x1 x2 x3 post) (ls : Array Slot) (hl : lv_has ls 5 [(0, .ref a_t), (1, .int x1), (2, .int x2), (3, .int x3)]) : W p l e rm_X1_whyNotOn s m args below meth c s.heap [] 0 0 Q (F0 m 0 ls []) := by
  have hx := hB.x
  have hb := hB.b
  refine lv_aload_n hx hb dX1_whyNotOn_0 rfl (lv_at hl 0 rfl) ?_
  refine lv_iload_n hx hb dX1_whyNotOn_1 rfl (lv_at hl 2 rfl) ?_
  refine lv_iload_n hx hb dX1_whyNotOn_2 rfl (lv_at hl 3 rfl) ?_
  refine lv_aload_n hx hb dX1_whyNotOn_3 rfl (lv_at hl 0 rfl) ?_
  refine lv_iload_n hx hb dX1_whyNotOn_4 rfl (lv_at hl 3 rfl) ?_
  refine mx_gi (mx_runV (As := [.int x3]) (rest := [.int x3, .int x2, .ref a_t]) hB (c_X1_loadOf l E a_t a_kind a_weight a_strength a_height a_folk a_mustBeAbove a_wind v_storeys v_pairs v_bears v_soft v_cellars v_weight v_folk x3 _ hf) sB_X1_loadOf sV_X1_loadOf wml_X1_76 rfl (mx_ppV hB hP [0, 1, 2] rfl 1 rfl rfl rfl) hl.1 rfl (Nat.le_of_ble_eq_true rfl) dX1_whyNotOn_5 ⟨Nat.zero_le _, Nat.zero_le _⟩) (fun r1 hf => ?_)
  refine lv_aload_n hx hb dX1_whyNotOn_8 rfl (lv_at hl 0 rfl) ?_
  refine gf_X1_43 hB hP 0 rfl rfl dX1_whyNotOn_9 ?_
  refine mx_gi (mx_runV (As := [.int x2, .int x3, .int r1, .int v_bears]) (rest := []) hB (c_X1_whyNot l E a_t a_kind a_weight a_strength a_height a_folk a_mustBeAbove a_wind v_storeys v_pairs v_bears v_soft v_cellars v_kind v_mustBeAbove v_strength x2 x3 r1 v_bears _ hf) sB_X1_whyNot sV_X1_whyNot wml_X1_79 rfl (mx_ppV hB hP [0, 3, 4, 5] rfl 1 rfl rfl rfl) hl.1 rfl (Nat.le_of_ble_eq_true rfl) dX1_whyNotOn_12 ⟨Nat.zero_le _, Nat.zero_le _⟩) (fun r2 hf => ?_)
  refine lv_istore (lv' := [(4, .int r2), (0, .ref a_t), (1, .int x1), (2, .int x2), (3, .int x3)]) hx hb dX1_whyNotOn_15 hl (by decide) rfl (fun ls hl => ?_)
  refine lv_iload hx hb dX1_whyNotOn_17 (lv_at hl 0 rfl) ?_
  refine lv_if_ne (tgt := 34) hx hb dX1_whyNotOn_19 (by decide) (fun c19 => ?_) (fun c19 => ?_)
  · have hf := hf.1 c19
    refine lv_iload hx hb dX1_whyNotOn_34 (lv_at hl 0 rfl) ?_
    exact hRet r2 36 ls dX1_whyNotOn_36 hf
  · have hf := hf.2 c19
    refine lv_aload_n hx hb dX1_whyNotOn_22 rfl (lv_at hl 1 rfl) ?_
    refine lv_iload_n hx hb dX1_whyNotOn_23 rfl (lv_at hl 2 rfl) ?_
    refine mx_gi (mx_runV (As := [.int x1]) (rest := []) hB (c_X1_windOf l E a_t a_kind a_weight a_strength a_height a_folk a_mustBeAbove a_wind v_storeys v_pairs v_bears v_soft v_cellars v_wind x1 _ hf) sB_X1_windOf sV_X1_windOf wml_X1_83 rfl (mx_ppV hB hP [0, 6] rfl 1 rfl rfl rfl) hl.1 rfl (Nat.le_of_ble_eq_true rfl) dX1_whyNotOn_24 ⟨Nat.zero_le _, Nat.zero_le _⟩) (fun r3 hf => ?_)
    refine lv_bipush hx hb dX1_whyNotOn_27 kc_b_9 ?_
    refine lv_icmp_ne (tgt := 34) hx hb dX1_whyNotOn_29 (by decide) (fun c29 => ?_) (fun c29 => ?_)
    · have hf := hf.1 c29
      refine lv_iload hx hb dX1_whyNotOn_34 (lv_at hl 0 rfl) ?_
      exact hRet r2 36 ls dX1_whyNotOn_36 hf
    · have hf := hf.2 c29
      refine lv_iconst hx hb dX1_whyNotOn_32 kc_i_5 ?_
      exact hRet 5 33 ls dX1_whyNotOn_33 hf
theorem c_X1_whyNotOn (l : Launch) (E : mx_E) (a_t : Nat) (a_kind : Nat) (a_weight : Nat) (a_strength : Nat) (a_height : Nat) (a_folk : Nat) (a_mustBeAbove : Nat) (a_wind : Nat) (v_storeys : Int32) (v_pairs : Int32) (v_bears : Int32) (v_soft : Int32) (v_cellars : Int32) (v_weight : (Nat → Int32)) (v_folk : (Nat → Int32)) (v_kind : (Nat → Int32)) (v_mustBeAbove : (Nat → Int32)) (v_strength : (Nat → Int32)) (v_wind : (Nat → Int32)) (x1 : Int32) (x2 : Int32) (x3 : Int32) (post : Int32 → Prop) (hf : f_X1_whyNotOn v_storeys v_weight v_folk v_bears v_kind v_cellars v_mustBeAbove v_strength v_wind x1 x2 x3 post) : Met l yX1_whyNotOn (Cond.code yX1_whyNotOn cX1_whyNotOn 5 (some .int) :: mx_WS) rm_X1_whyNotOn (va_Pc [.ref a_t, .int x1, .int x2, .int x3] (mx_Pp E (w_X1_whyNotOn E a_t a_kind a_weight a_strength a_height a_folk a_mustBeAbove a_wind v_storeys v_pairs v_bears v_soft v_cellars v_weight v_folk v_kind v_mustBeAbove v_strength v_wind))) (vp_Si post) 0 0 (fun _ => False) :=
  mx_metPi (by decide) rfl rfl (fun hB hP hRet ls hl => b_X1_whyNotOn E a_t a_kind a_weight a_strength a_height a_folk a_mustBeAbove a_wind v_storeys v_pairs v_bears v_soft v_cellars v_weight v_folk v_kind v_mustBeAbove v_strength v_wind x1 x2 x3 post hB hP hRet hf ls hl)
