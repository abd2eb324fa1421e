def rz_mk (k : Nat) : Nat := if k < 4 then k else if k = 9 then 4 else k + 1
def rz_ns2 (k ns : Nat) : Nat := if k < 4 then ns + 1 else if k = 9 then 0 else ns
def rz_np2 (k np : Nat) : Nat := if k = 8 then np + 1 else if k = 9 then 0 else np
def rz_ar (k : Nat) : Nat := if k < 4 then 3 else if k = 4 then 2 else if k = 7 then 3 else if k = 8 then 2 else if k = 9 then 0 else 1
/-- a line as the model keeps it -/
def rz_ln (rd : Nat → Int32) (w k : Nat) (r : Nat → Nat) : Prop := rd w = nI (rz_mk k) ∧ (1 ≤ rz_ar k → rd (w + 1) = nI (r 1)) ∧ (2 ≤ rz_ar k → rd (w + 2) = nI (r 2)) ∧ (3 ≤ rz_ar k → rd (w + 3) = nI (r 3))
theorem rz_ap_ns {k : Nat} {r : Nat → Nat} {D : rz_D} (hk : k < 10) : (rz_ap k r D).1 = rz_ns2 k D.1 ∧ (rz_ap k r D).2.2.1 = rz_np2 k D.2.2.1 := by
  obtain ⟨ns, K, np, Pa, Pb, nb, so, Wd⟩ := D
  rcases rz_k10 hk with hk | rfl | rfl | rfl | rfl | rfl | rfl
  · simp only [rz_ap, rz_ns2, rz_np2, if_pos hk, show ¬ k = 8 by omega, show ¬ k = 9 by omega, if_false]
    exact ⟨trivial, trivial⟩
  all_goals exact ⟨rfl, rfl⟩
section RH
variable {c : Nat → Nat} {tl : Nat} {mt : Nat → Int32}
variable {ta dg nm fa : Int32} {tk : Int64} {rd : Nat → Int32}
theorem s_isNum_t {e w lo hx v : Nat} {x3 : Int32} {post : Int32 → Int32 → Int32 → Int32 → Int64 → Int32 → Int32 → (Nat → Int32) → Prop} (htl : tl ≤ 200) (hb : ∀ j, j < tl → c j < 256 ∧ mt j = nI (c j)) (he : e ≤ tl) (hw : w < 60) (hlo : lo < 1000) (h3 : rz_hx x3 hx) (h : rz_N c tl e lo hx v) (hp : ∀ dg nm tk, post 1 (nI (rz_s c tl e)) dg nm tk (nI (rz_t c tl e)) fa (upd rd w (nI v))) : f_X5_isNumber (nI tl) mt ta dg nm tk (nI e) fa rd (nI w) (nI lo) x3 post := by
  obtain ⟨h1, h2, h4, h5⟩ := h
  have hv := rz_v_lt he h1
  rw [h2] at hv
  refine s_nextToken htl hb he (fun dg nm tk htk => ?_)
  obtain ⟨k1, k2⟩ := htk.2.1 h1
  rw [lg_cmp_eq, k2, h2]
  have hin : ¬ nI v < nI lo ∧ ¬ x3 < nI v := ⟨by rw [nI_ltI (by omega) (by omega)]; omega, Int32.not_lt.mpr ((h3 v hv).mpr h5)⟩
  refine ⟨fun c => absurd k1 c, fun _ => in1_and2 (fun z => absurd hin z) (fun _ => ⟨vp_in_nI (by omega) (by omega), ?_⟩)⟩
  rw [nI_clamp (by omega)]
  exact hp _ _ _
theorem s_isNum_f {e w lo hx : Nat} {x3 : Int32} {post : Int32 → Int32 → Int32 → Int32 → Int64 → Int32 → Int32 → (Nat → Int32) → Prop} (htl : tl ≤ 200) (hb : ∀ j, j < tl → c j < 256 ∧ mt j = nI (c j)) (he : e ≤ tl) (hw : w < 60) (hlo : lo < 1000) (h3 : rz_hx x3 hx) (h : rz_nN c tl e lo hx) (hp : ∀ dg nm tk, post 0 (nI (rz_s c tl e)) dg nm tk (nI (rz_t c tl e)) (nI (rz_s c tl e)) rd) : f_X5_isNumber (nI tl) mt ta dg nm tk (nI e) fa rd (nI w) (nI lo) x3 post := by
  refine s_nextToken htl hb he (fun dg nm tk htk => ?_)
  have bad : f_X5_isNumber_27 (nI tl) mt post (nI (rz_s c tl e)) dg nm tk (nI (rz_t c tl e)) fa rd := ⟨Or.inl rfl, hp _ _ _⟩
  refine ⟨fun _ => bad, fun c1 => in1_and2 (fun _ => bad) (fun z => ?_)⟩
  rw [lg_cmp_eq] at c1
  by_cases hi : rz_isn c tl e
  · have hv := rz_v_lt he hi
    obtain ⟨k1, k2⟩ := htk.2.1 hi
    rw [k2] at z
    refine absurd ⟨hi, rfl, ?_, ?_⟩ (h (rz_v c tl e))
    · have := z.1; rw [nI_ltI (by omega) (by omega)] at this; omega
    · exact (h3 _ hv).mp (Int32.not_lt.mp z.2)
  · exact absurd c1 (htk.2.2.1 hi)
theorem s_isThere_t {ns e w v : Nat} {post : Int32 → Int32 → Int32 → Int32 → Int64 → Int32 → Int32 → (Nat → Int32) → Prop} (htl : tl ≤ 200) (hb : ∀ j, j < tl → c j < 256 ∧ mt j = nI (c j)) (he : e ≤ tl) (hw : w < 60) (hn : ns ≤ 8) (h : rz_N c tl e 0 ns v) (hp : ∀ dg nm tk, post 1 (nI (rz_s c tl e)) dg nm tk (nI (rz_t c tl e)) fa (upd rd w (nI v))) : f_X5_isThere (nI ns) (nI tl) mt ta dg nm tk (nI e) fa rd (nI w) post :=
  s_isNum_t (lo := 0) htl hb he hw (by omega) (rz_hx_m (n := ns) (by omega)) h (fun dg nm tk => ⟨Or.inr rfl, hp _ _ _⟩)
theorem s_isThere_f {ns e w : Nat} {post : Int32 → Int32 → Int32 → Int32 → Int64 → Int32 → Int32 → (Nat → Int32) → Prop} (htl : tl ≤ 200) (hb : ∀ j, j < tl → c j < 256 ∧ mt j = nI (c j)) (he : e ≤ tl) (hw : w < 60) (hn : ns ≤ 8) (h : rz_nN c tl e 0 ns) (hp : ∀ dg nm tk, post 0 (nI (rz_s c tl e)) dg nm tk (nI (rz_t c tl e)) (nI (rz_s c tl e)) rd) : f_X5_isThere (nI ns) (nI tl) mt ta dg nm tk (nI e) fa rd (nI w) post :=
  s_isNum_f (lo := 0) htl hb he hw (by omega) (rz_hx_m (n := ns) (by omega)) h (fun dg nm tk => ⟨Or.inl rfl, hp _ _ _⟩)
theorem ix_w1 (w : Nat) : nI w + 1 = nI (w + 1) := nI_1 w
/-- the word of a line -/
theorem s_isLine_80 {w k0 : Int32} {rp rs po : Int32} {post : Int32 → Int32 → Int32 → Int32 → Int64 → Int32 → (Nat → Int32) → Int32 → Int32 → Int32 → Prop} (h : ∀ j, 4 ≤ j → j < 9 → ¬ lg_cmp tk (iL (rz_code j)) = 0) (hp : f_X5_isLine_161 (nI tl) mt post w k0 (-1) ta dg nm tk po rd fa rp rs) : f_X5_isLine_80 (nI tl) mt post w k0 ta dg nm tk po rd fa rp rs :=
  ⟨fun _ => ⟨fun _ => ⟨fun _ => ⟨fun _ => ⟨fun _ => hp, fun c => absurd c (h 8 (by omega) (by omega))⟩, fun c => absurd c (h 7 (by omega) (by omega))⟩, fun c => absurd c (h 6 (by omega) (by omega))⟩, fun c => absurd c (h 5 (by omega) (by omega))⟩, fun c => absurd c (h 4 (by omega) (by omega))⟩
theorem s_isLine_k {e k : Nat} {w : Int32} {rp rs : Int32} {post : Int32 → Int32 → Int32 → Int32 → Int64 → Int32 → (Nat → Int32) → Int32 → Int32 → Int32 → Prop} (htl : tl ≤ 200) (hb : ∀ j, j < tl → c j < 256 ∧ mt j = nI (c j)) (he : e ≤ tl) (hk : k < 10) (hW : rz_W c tl e k) (hp : ∀ dg nm tk, f_X5_isLine_177 (nI tl) mt post w w (nI (rz_mk k)) (nI (rz_s c tl e)) dg nm tk (nI (rz_t c tl e)) rd fa rp rs) : f_X5_isLine (nI tl) mt ta dg nm tk (nI e) rd fa rp rs w post := by
  refine s_nextToken htl hb he (fun dg nm tk htk => ?_)
  have hF : ∀ j, j < 10 → (lg_cmp tk (iL (rz_code j)) = 0 ↔ j = k) := by
    intro j hj
    have hcj := rz_code_lt j hj
    have hck := rz_code_lt k hk
    rw [lg_cmp_eq, (htk.1 k hk).mp hW, iL_inj (by omega) (by omega)]
    exact ⟨fun z => (rz_code_ne k hk j hj z).symm, fun z => by rw [z]⟩
  have hp := hp dg nm tk
  have fa1 : ∀ {k0 : Int32}, k0 = nI (rz_mk k) → (¬ (4 ≤ k ∧ k < 9)) → f_X5_isLine_80 (nI tl) mt post w k0 (nI (rz_s c tl e)) dg nm tk (nI (rz_t c tl e)) rd fa rp rs := by
    intro k0 h1 h2
    refine s_isLine_80 (fun j h3 h4 z => ?_) ⟨fun _ => by rw [h1]; exact hp, fun z => ?_⟩
    · have := (hF j (by omega)).mp z; omega
    · exact absurd (h1 ▸ z) (nI_nm1 (by unfold rz_mk; split <;> (try split) <;> omega))
  refine ⟨fun n0 => ⟨fun n1 => ⟨fun n2 => ⟨fun n3 => ⟨fun n9 => ?_, fun y => ?_⟩, fun y => ?_⟩, fun y => ?_⟩, fun y => ?_⟩, fun y => ?_⟩
  · have m0 : k ≠ 0 := fun z => n0 ((hF 0 (by omega)).mpr z.symm)
    have m1 : k ≠ 1 := fun z => n1 ((hF 1 (by omega)).mpr z.symm)
    have m2 : k ≠ 2 := fun z => n2 ((hF 2 (by omega)).mpr z.symm)
    have m3 : k ≠ 3 := fun z => n3 ((hF 3 (by omega)).mpr z.symm)
    have m9 : k ≠ 9 := fun z => n9 ((hF 9 (by omega)).mpr z.symm)
    have g : ∀ {j : Nat}, j < 10 → lg_cmp tk (iL (rz_code j)) = 0 → 4 ≤ j → j < 9 → ∀ q, q = nI (j + 1) → f_X5_isLine_161 (nI tl) mt post w (-1) q (nI (rz_s c tl e)) dg nm tk (nI (rz_t c tl e)) rd fa rp rs := by
      intro j hj h1 h2 h3 q hq
      have := (hF j hj).mp h1
      subst this
      refine ⟨fun z => absurd rfl z, fun _ => ?_⟩
      rw [hq]
      have em : rz_mk j = j + 1 := by unfold rz_mk; rw [if_neg (by omega), if_neg (by omega)]
      rw [em] at hp
      exact hp
    refine ⟨fun n4 => ⟨fun n5 => ⟨fun n6 => ⟨fun n7 => ⟨fun n8 => ?_, fun y => ?_⟩, fun y => ?_⟩, fun y => ?_⟩, fun y => ?_⟩, fun y => ?_⟩
    · have m4 : k ≠ 4 := fun z => n4 ((hF 4 (by omega)).mpr z.symm)
      have m5 : k ≠ 5 := fun z => n5 ((hF 5 (by omega)).mpr z.symm)
      have m6 : k ≠ 6 := fun z => n6 ((hF 6 (by omega)).mpr z.symm)
      have m7 : k ≠ 7 := fun z => n7 ((hF 7 (by omega)).mpr z.symm)
      have m8 : k ≠ 8 := fun z => n8 ((hF 8 (by omega)).mpr z.symm)
      omega
    · exact g (j := 8) (by omega) y (by omega) (by omega) _ rfl
    · exact g (j := 7) (by omega) y (by omega) (by omega) _ rfl
    · exact g (j := 6) (by omega) y (by omega) (by omega) _ rfl
    · exact g (j := 5) (by omega) y (by omega) (by omega) _ rfl
    · exact g (j := 4) (by omega) y (by omega) (by omega) _ rfl
  · have := (hF 9 (by omega)).mp y
    subst this; exact fa1 rfl (by omega)
  · have := (hF 3 (by omega)).mp y
    subst this; exact fa1 rfl (by omega)
  · have := (hF 2 (by omega)).mp y
    subst this; exact fa1 rfl (by omega)
  · have := (hF 1 (by omega)).mp y
    subst this; exact fa1 rfl (by omega)
  · have := (hF 0 (by omega)).mp y
    subst this; exact fa1 rfl (by omega)
theorem s_isLine_0 {e : Nat} {w : Int32} {rp rs : Int32} {post : Int32 → Int32 → Int32 → Int32 → Int64 → Int32 → (Nat → Int32) → Int32 → Int32 → Int32 → Prop} (htl : tl ≤ 200) (hb : ∀ j, j < tl → c j < 256 ∧ mt j = nI (c j)) (he : e ≤ tl) (hW : ∀ k, k < 10 → ¬ rz_W c tl e k) (hp : ∀ dg nm tk, f_X5_isLine_177 (nI tl) mt post w w (-1) (nI (rz_s c tl e)) dg nm tk (nI (rz_t c tl e)) rd fa rp rs) : f_X5_isLine (nI tl) mt ta dg nm tk (nI e) rd fa rp rs w post := by
  refine s_nextToken htl hb he (fun dg nm tk htk => ?_)
  have hF : ∀ j, j < 10 → ¬ lg_cmp tk (iL (rz_code j)) = 0 := by
    intro j hj z
    rw [lg_cmp_eq] at z
    exact hW j hj ((htk.1 j hj).mpr z)
  exact ⟨fun _ => ⟨fun _ => ⟨fun _ => ⟨fun _ => ⟨fun _ => s_isLine_80 (fun j _ _ => hF j (by omega)) ⟨fun z => absurd rfl z, fun _ => hp _ _ _⟩, fun y => absurd y (hF 9 (by omega))⟩, fun y => absurd y (hF 3 (by omega))⟩, fun y => absurd y (hF 2 (by omega))⟩, fun y => absurd y (hF 1 (by omega))⟩, fun y => absurd y (hF 0 (by omega))⟩
end RH
