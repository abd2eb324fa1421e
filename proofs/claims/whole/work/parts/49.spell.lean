def rm_X0_spelling : Room := { frames := 0, cells := 0, slots := 0, locals := 0 }
set_option maxHeartbeats 4000000 in
set_option maxRecDepth 100000 in
theorem c_X0_spelling (l : Launch) (E : mx_E) (Z : (Nat → Nat) × (Nat → Nat)) (x : Int32) : Met l yX0_spelling (Cond.code yX0_spelling cX0_spelling 1 (some (.object "java/lang/String")) :: mx_WS) rm_X0_spelling (va_Pc [.int x] (mx_Px (mx_Xc Z) E)) (mx_Sr (Z.1 (mx_sk x))) 0 0 (fun _ => False) := by
  refine Met.ofW (cc := cX0_spelling) (maxL := 1) (ret := some (.object "java/lang/String")) (by decide) rfl ?_
  intro p e s m args below meth c s₁ B hml hv
  obtain ⟨rfl, hZ, hKN⟩ := hv
  rw [lg_entry_eq]
  have hB := mx_B.of (own := RX0) (E := E) rfl B hml hKN
  have hx := hB.x
  have hb := hB.b
  have hl := lv_entry ([.int x]) (n := 1) (Nat.le_of_ble_eq_true rfl)
  generalize (lg_sl ([.int x]) ++ List.replicate (1 - (lg_sl ([.int x])).length) Slot.unset).toArray = ls at hl ⊢
  have hl : lv_has ls 1 [(0, .int x)] := hl
  have ret : ∀ (k pc : Nat), k < 10 → mx_sk x = k → decode cX0_spelling pc = .ok (.ldc (mx_si k), 2) → decode cX0_spelling (pc + 2) = .ok (.areturn, 1) → W p l e (headSpec (Cond.code yX0_spelling cX0_spelling 1 (some (.object "java/lang/String")) :: mx_WS) rm_X0_spelling).room s m ([Value.int x]).toArray below meth c s.heap [] 0 0 (MQ below (mx_Sr (Z.1 (mx_sk x))) ([Value.int x]).toArray s 0 0 (fun _ => False)) (F0 m pc ls []) := by
    intro k pc hk he d1 d2
    refine va_ldcS hx hb hB.o (hZ.1 k hk) d1 ?_
    exact W.aret hx hb B.returns (Or.inl ⟨_, rfl⟩) (Or.inr ⟨_, rfl⟩) (fun t ht hW => ⟨by rw [he], ht⟩) (fun q hq => by cases hq) d2 B.notSynchronized
  refine lv_iload_n hx hb dX0_spelling_0 rfl (lv_at hl 0 rfl) ?_
  by_cases c1_0 : x = 0
  · refine lv_tableIn (tgt := 52) hx hb dX0_spelling_1 (by rw [c1_0]; decide) (by rw [c1_0]; decide) (by rw [c1_0]; rfl) (by decide) ?_
    exact ret 0 52 (by decide) (by rw [c1_0]; rfl) dX0_spelling_52 dX0_spelling_54
  by_cases c1_1 : x = 1
  · refine lv_tableIn (tgt := 55) hx hb dX0_spelling_1 (by rw [c1_1]; decide) (by rw [c1_1]; decide) (by rw [c1_1]; rfl) (by decide) ?_
    exact ret 1 55 (by decide) (by rw [c1_1]; rfl) dX0_spelling_55 dX0_spelling_57
  by_cases c1_2 : x = 2
  · refine lv_tableIn (tgt := 58) hx hb dX0_spelling_1 (by rw [c1_2]; decide) (by rw [c1_2]; decide) (by rw [c1_2]; rfl) (by decide) ?_
    exact ret 2 58 (by decide) (by rw [c1_2]; rfl) dX0_spelling_58 dX0_spelling_60
  by_cases c1_3 : x = 3
  · refine lv_tableIn (tgt := 61) hx hb dX0_spelling_1 (by rw [c1_3]; decide) (by rw [c1_3]; decide) (by rw [c1_3]; rfl) (by decide) ?_
    exact ret 3 61 (by decide) (by rw [c1_3]; rfl) dX0_spelling_61 dX0_spelling_63
  by_cases c1_4 : x = 4
  · refine lv_tableIn (tgt := 64) hx hb dX0_spelling_1 (by rw [c1_4]; decide) (by rw [c1_4]; decide) (by rw [c1_4]; rfl) (by decide) ?_
    exact ret 4 64 (by decide) (by rw [c1_4]; rfl) dX0_spelling_64 dX0_spelling_66
  by_cases c1_5 : x = 5
  · refine lv_tableIn (tgt := 67) hx hb dX0_spelling_1 (by rw [c1_5]; decide) (by rw [c1_5]; decide) (by rw [c1_5]; rfl) (by decide) ?_
    exact ret 5 67 (by decide) (by rw [c1_5]; rfl) dX0_spelling_67 dX0_spelling_69
  by_cases c1_6 : x = 6
  · refine lv_tableIn (tgt := 70) hx hb dX0_spelling_1 (by rw [c1_6]; decide) (by rw [c1_6]; decide) (by rw [c1_6]; rfl) (by decide) ?_
    exact ret 6 70 (by decide) (by rw [c1_6]; rfl) dX0_spelling_70 dX0_spelling_72
  by_cases c1_7 : x = 7
  · refine lv_tableIn (tgt := 73) hx hb dX0_spelling_1 (by rw [c1_7]; decide) (by rw [c1_7]; decide) (by rw [c1_7]; rfl) (by decide) ?_
    exact ret 7 73 (by decide) (by rw [c1_7]; rfl) dX0_spelling_73 dX0_spelling_75
  by_cases c1_8 : x = 8
  · refine lv_tableIn (tgt := 76) hx hb dX0_spelling_1 (by rw [c1_8]; decide) (by rw [c1_8]; decide) (by rw [c1_8]; rfl) (by decide) ?_
    exact ret 8 76 (by decide) (by rw [c1_8]; rfl) dX0_spelling_76 dX0_spelling_78
  refine lv_tableOut (tgt := 79) hx hb dX0_spelling_1 (mx_out 0 8 [0, 1, 2, 3, 4, 5, 6, 7, 8] (List.forall_mem_cons.mpr ⟨c1_0, (List.forall_mem_cons.mpr ⟨c1_1, (List.forall_mem_cons.mpr ⟨c1_2, (List.forall_mem_cons.mpr ⟨c1_3, (List.forall_mem_cons.mpr ⟨c1_4, (List.forall_mem_cons.mpr ⟨c1_5, (List.forall_mem_cons.mpr ⟨c1_6, (List.forall_mem_cons.mpr ⟨c1_7, (List.forall_mem_cons.mpr ⟨c1_8, (fun _ h => absurd h List.not_mem_nil)⟩)⟩)⟩)⟩)⟩)⟩)⟩)⟩)⟩) (by decide)) (by decide) ?_
  exact ret 9 79 (by decide) (by simp only [mx_sk, c1_0, c1_1, c1_2, c1_3, c1_4, c1_5, c1_6, c1_7, c1_8, if_false]) dX0_spelling_79 dX0_spelling_81
