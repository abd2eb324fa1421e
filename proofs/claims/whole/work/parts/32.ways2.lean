section CX
variable {ns np bear : Nat} {K : Nat → Nat → Nat} {Pa Pb : Nat → Nat} {xc : Int32} {xk xw xt xh xf xa : Nat → Int32} {mst mpr : Nat → Int32} {e : Nat → Nat → Bool}
def cw_e (ns : Nat) (K : Nat → Nat → Nat) (np : Nat) (Pa Pb : Nat → Nat) (bear : Nat) (s set : Nat) : Bool := decide (pz_why ns K np Pa Pb s set bear = 0)
theorem cw_e_t (hE : e = cw_e ns K np Pa Pb bear) {s set : Nat} (h : nI (pz_why ns K np Pa Pb s set bear) = 0) : e s set = true := by
  have := pz_why_le ns K np Pa Pb s set bear
  rw [hE]; exact decide_eq_true ((nI_eq0 (by omega)).mp h)
theorem cw_e_f (hE : e = cw_e ns K np Pa Pb bear) {s set : Nat} (h : ¬ nI (pz_why ns K np Pa Pb s set bear) = 0) : e s set = false := by
  have := pz_why_le ns K np Pa Pb s set bear
  rw [hE]; exact decide_eq_false (fun z => h ((nI_eq0 (by omega)).mpr z))
theorem cw_e_ok (hE : e = cw_e ns K np Pa Pb bear) : cw_ok e ns := by
  intro s a _ _ h
  rw [hE] at h
  exact pz_why_bit (of_decide_eq_true h)
theorem cw_orI (hn : ns ≤ 8) {m t : Nat} (hm : m < 2 ^ ns) (ht : t < ns) : nI m ||| ((1 : Int32) <<< (nI t &&& 31)) = nI (m ||| 2 ^ t) := by
  have := (pz_all_lt ns (by omega)).2.1
  exact pz_or m (by omega) t (by omega)
theorem s_pass {m : Nat} {ways : Nat → Int32} {post : (Nat → Int32) → Prop} (hE : e = cw_e ns K np Pa Pb bear) (ho : pz_ok ns K np Pa Pb) (hX : pz_X ns K np Pa Pb xc xk xw xt xh xf xa) (hb : bear < 2 ^ 31) (hm : m < 2 ^ ns) (hw : ∀ b, b < 2 ^ ns → ways b = nI (cw_G e ns m b)) (hp : ∀ w', (∀ b, b < 2 ^ ns → w' b = nI (cw_G e ns (m + 1) b)) → post w') : f_X4_passWaysOn (nI ns) xw xf xk xc xa xt ways (nI m) (nI bear) post := by
  have hn8 := ho.1
  have h256 := (pz_all_lt ns (by omega)).2.1
  have key : ∀ z t w, t + z = ns → (∀ b, b < 2 ^ ns → w b = nI (cw_H e ns m t b)) → mx_l2 (f_X4_passWaysOn_12 (nI ns) xw xf xk xc xa xt post (nI m) (nI bear) (nI (pz_ld ns K m))) (z + 1) (nI t) w := by
    intro z
    induction z with
    | zero =>
      intro t w ht hw
      refine ⟨fun _ => hp w (fun b hb => ?_), fun c => absurd (nI_le (by omega) (by omega)) c⟩
      rw [hw b hb, show t = ns by omega, cw_H_ns]
    | succ z ih =>
      intro t w ht hw
      refine ⟨fun c => absurd c (nI_ge (by omega) (by omega)), fun _ => s_X1_whyNot ho hX (by omega) (by omega) hb ⟨fun c => ?_, fun c => ?_⟩⟩
      · rw [nI_1]
        exact ih (t + 1) w (by omega) (fun b hb => by rw [hw b hb, cw_H_ne (Or.inr (cw_e_f hE c))])
      · have he := cw_e_t hE c
        obtain ⟨u1, u2, u3⟩ := cw_up ns (by omega) m hm t (by omega) (cw_e_ok hE t m (by omega) hm he)
        rw [cw_orI hn8 hm (by omega), u1, nI_1, nI_clamp (by omega), nI_clamp (by omega), hw _ u2, hw _ hm, nI_add, cw_H_m]
        refine ⟨vp_in_nI (by omega) (by omega), vp_in_nI (by omega) (by omega), vp_in_nI (by omega) (by omega), ih (t + 1) _ (by omega) (fun b hb => ?_)⟩
        by_cases h : b = m + 2 ^ t
        · subst h
          rw [pk_us, cw_H_at hn8 (cw_e_ok hE) hm (by omega) he]
        · rw [pk_un h, hw b hb, cw_H_ne (Or.inl h)]
  refine s_X1_load ho hX (by omega) ⟨ns + 1, key ns 0 ways (by omega) (fun b hb => ?_)⟩
  rw [hw b hb]
  simp [cw_H, pz_sm]
theorem s_waysTo {ways : Nat → Int32} {post : (Nat → Int32) → Prop} (hE : e = cw_e ns K np Pa Pb bear) (ho : pz_ok ns K np Pa Pb) (hX : pz_X ns K np Pa Pb xc xk xw xt xh xf xa) (hb : bear < 2 ^ 31) (hp : ∀ w', (∀ b, b < 2 ^ ns → w' b = nI (cw_F e ns b)) → post w') : f_X4_countWaysTo (nI ns) xw xf xk xc xa xt ways (nI bear) post := by
  have hn8 := ho.1
  obtain ⟨-, h256, hN⟩ := pz_all_lt ns (by omega)
  have k2 : ∀ z m w, m + z + 1 = 2 ^ ns → (∀ b, b < 2 ^ ns → w b = nI (cw_G e ns m b)) → mx_l2 (f_X4_countWaysTo_37 (nI ns) xw xf xk xc xa xt post (nI bear) (nI (2 ^ ns - 1))) (z + 1) (nI m) w := by
    intro z
    induction z with
    | zero =>
      intro m w hm hw
      exact ⟨fun _ => hp w (fun b hb => by rw [hw b hb, cw_G_le (by omega)]), fun c => absurd (nI_le (by omega) (by omega)) c⟩
    | succ z ih =>
      intro m w hm hw
      have hlt := cw_F_lt (e := e) hn8 (b := m) (by omega)
      refine ⟨fun c => absurd c (nI_ge (by omega) (by omega)), fun _ => ⟨vp_in_nI (by omega) (by omega), ?_⟩⟩
      rw [nI_clamp (by omega), hw m (by omega), cw_G_le (Nat.le_refl m), nI_1]
      refine ⟨fun c => ?_, fun c => ?_⟩
      · have c2 : cw_F e ns m = 0 := by have := (nI_leI (b := 0) (by omega) (by omega)).mp c; omega
        refine ih (m + 1) w (by omega) (fun b hb => ?_)
        rw [hw b hb, ← cw_H_ns, cw_H_z c2]
      · exact s_pass hE ho hX hb (by omega) hw (fun w' hw' => ih (m + 1) w' (by omega) hw')
  have k1 : ∀ z m w, m + z = 2 ^ ns → (∀ b, b < m → w b = 0) → mx_l2 (f_X4_countWaysTo_10 (nI ns) xw xf xk xc xa xt post (nI bear) (nI (2 ^ ns - 1))) (z + 1) (nI m) w := by
    intro z
    induction z with
    | zero =>
      intro m w hm hw
      refine ⟨fun _ => ⟨vp_in_nI (n := 0) (by omega) (by omega), 2 ^ ns, ?_⟩, fun c => absurd ((nI_ltI (by omega) (by omega)).mpr (by omega)) c⟩
      have := k2 (2 ^ ns - 1) 0 (upd w (0 : Int32).toNatClampNeg 1) (by omega) (fun b hb => ?_)
      · rw [show 2 ^ ns - 1 + 1 = 2 ^ ns by omega] at this
        exact this
      · rw [cw_G_0, ix_0]
        by_cases h : b = 0
        · subst h; rw [pk_us, if_pos rfl]; rfl
        · rw [pk_un h, if_neg h, hw b (by omega)]; rfl
    | succ z ih =>
      intro m w hm hw
      refine ⟨fun c => absurd ((nI_ltI (by omega) (by omega)).mp c) (by omega), fun _ => ⟨vp_in_nI (by omega) (by omega), ?_⟩⟩
      rw [nI_1, nI_clamp (by omega)]
      refine ih (m + 1) _ (by omega) (fun b hb => ?_)
      by_cases h : b = m
      · subst h; exact pk_us
      · rw [pk_un h]; exact hw b (by omega)
  show ∃ n, mx_l2 _ _ _ _
  rw [pz_all ns (by omega)]
  exact ⟨2 ^ ns + 1, k1 (2 ^ ns) 0 ways (by omega) (fun b hb => absurd hb (by omega))⟩
theorem nI_m1lt (n : Nat) (h : n = 0) : nI n - 1 < 0 := by subst h; decide
theorem s_waysOn {ways : Nat → Int32} {post : (Nat → Int32) → Prop} (hE : e = cw_e ns K np Pa Pb bear) (ho : pz_ok ns K np Pa Pb) (hX : pz_X ns K np Pa Pb xc xk xw xt xh xf xa) (hb : bear < 2 ^ 31) (hp : ∀ w', (∀ b, b < 2 ^ ns → w' b = nI (cw_B e ns b)) → post w') : f_X4_countWaysOn (nI ns) xw xf (nI bear) xk xc xa xt ways post := by
  have hn8 := ho.1
  obtain ⟨-, h256, hN⟩ := pz_all_lt ns (by omega)
  have hok := cw_e_ok hE
  have k1 : ∀ m w, m < 2 ^ ns → (∀ b, m ≤ b → b < 2 ^ ns → w b = nI (cw_B e ns b)) → mx_l2 (f_X4_countWaysOn_19 (nI ns) xw xf (nI bear) xk xc xa xt post) (m + 1) (nI m - 1) w := by
    intro m
    induction m with
    | zero =>
      intro w _ hw
      exact ⟨fun _ => hp w (fun b hb => hw b (by omega) hb), fun c => absurd (by decide) c⟩
    | succ m ih =>
      intro w hm hw
      rw [nI_pred]
      refine ⟨fun c => absurd c (nI_pos (by omega)), fun _ => s_X1_load ho hX (by omega) ⟨ns + 1, ?_⟩⟩
      have k2 : ∀ z t, t + z = ns → mx_l2 (f_X4_countWaysOn_38 (nI ns) xw xf (nI bear) xk xc xa xt (mx_l2 (f_X4_countWaysOn_19 (nI ns) xw xf (nI bear) xk xc xa xt post) (m + 1)) post (nI m) (nI (pz_ld ns K m)) w) (z + 1) (nI (pz_sm (fun s => if e s m = true then cw_B e ns (m ||| 2 ^ s) else 0) t)) (nI t) := by
        intro z
        induction z with
        | zero =>
          intro t ht
          refine ⟨fun _ => ⟨vp_in_nI (by omega) (by omega), ?_⟩, fun c => absurd (nI_le (by omega) (by omega)) c⟩
          rw [show t = ns by omega, ← cw_B_eq hn8 hok (by omega), nI_clamp (by omega), show nI m + (-1) = nI m - 1 from by apply Int32.toBitVec_inj.mp; simp [Int32.toBitVec_sub, Int32.toBitVec_add, BitVec.sub_eq_add_neg]]
          refine ih _ (by omega) (fun b h1 h2 => ?_)
          by_cases h : b = m
          · subst h; exact pk_us
          · rw [pk_un h]; exact hw b (by omega) h2
        | succ z ih2 =>
          intro t ht
          refine ⟨fun c => absurd c (nI_ge (by omega) (by omega)), fun _ => s_X1_whyNot ho hX (by omega) (by omega) hb ⟨fun c => ?_, fun c => ?_⟩⟩
          · have := ih2 (t + 1) (by omega)
            rw [pz_sm, if_neg (by rw [cw_e_f hE c]; simp)] at this
            rw [nI_1]
            exact this
          · have he := cw_e_t hE c
            obtain ⟨u1, u2, u3⟩ := cw_up ns (by omega) m (by omega) t (by omega) (hok t m (by omega) (by omega) he)
            have p := Nat.two_pow_pos t
            have := ih2 (t + 1) (by omega)
            rw [pz_sm, if_pos he, u1] at this
            rw [cw_orI hn8 (by omega) (by omega), u1, nI_clamp (by omega), hw _ (by omega) u2, nI_add, nI_1]
            exact ⟨vp_in_nI (by omega) (by omega), this⟩
      exact k2 ns 0 (by omega)
  show vp_in _ _ ∧ ∃ n, mx_l2 _ _ _ _
  rw [pz_all ns (by omega), nI_clamp (by omega)]
  refine ⟨vp_in_nI (by omega) (by omega), _, k1 (2 ^ ns - 1) _ (by omega) (fun b h1 h2 => ?_)⟩
  rw [show b = 2 ^ ns - 1 by omega, pk_us, cw_B_all hn8]
  rfl
end CX
