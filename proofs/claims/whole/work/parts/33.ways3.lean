section CY
variable {ns np bear : Nat} {K : Nat → Nat → Nat} {Pa Pb : Nat → Nat} {mst mpr : Nat → Int32} {e : Nat → Nat → Bool}
theorem nI_pm (m : Nat) : nI m + (-1) = nI m - 1 := by apply Int32.toBitVec_inj.mp; simp [Int32.toBitVec_sub, Int32.toBitVec_add, BitVec.sub_eq_add_neg]
def cy_z (b : Bool) : Int32 := if b then 1 else 0
theorem cy_z0 {b : Bool} : cy_z b = 0 ↔ b = false := by cases b <;> decide
theorem cy_nar (b : Bool) : vp_nar .boolean (cy_z b) = cy_z b := by cases b <;> rfl
/-- whether there is a way on -/
def cy_E (e : Nat → Nat → Bool) (ns b : Nat) : Bool := decide (0 < cw_B e ns b)
theorem cy_E_all (hn : ns ≤ 8) : cy_E e ns (2 ^ ns - 1) = true := by unfold cy_E; rw [cw_B_all hn]; rfl
theorem cy_E_t (hn : ns ≤ 8) (he : cw_ok e ns) {a s : Nat} (ha : a + 1 < 2 ^ ns) (hs : s < ns) (h1 : e s a = true) (h2 : cy_E e ns (a ||| 2 ^ s) = true) : cy_E e ns a = true := by
  unfold cy_E at *
  rw [cw_B_eq hn he ha]
  have := pz_sm_ge (f := fun s => if e s a = true then cw_B e ns (a ||| 2 ^ s) else 0) hs
  simp only [if_pos h1] at this
  have h3 := of_decide_eq_true h2
  exact decide_eq_true (by omega)
theorem cy_E_f (hn : ns ≤ 8) (he : cw_ok e ns) {a : Nat} (ha : a + 1 < 2 ^ ns) (h : ∀ s, s < ns → e s a = true → cy_E e ns (a ||| 2 ^ s) = false) : cy_E e ns a = false := by
  unfold cy_E at *
  rw [cw_B_eq hn he ha, pz_sm_zero ns (fun k hk => ?_)]
  · rfl
  · by_cases c : e k a = true
    · rw [if_pos c]
      have := of_decide_eq_false (h k hk c)
      omega
    · rw [if_neg c]
theorem cy_E_ex (hn : ns ≤ 8) (he : cw_ok e ns) {a : Nat} (ha : a + 1 < 2 ^ ns) (h : cy_E e ns a = true) : ∃ s, s < ns ∧ e s a = true ∧ cy_E e ns (a ||| 2 ^ s) = true := by
  unfold cy_E at *
  have h1 := of_decide_eq_true h
  rw [cw_B_eq hn he ha] at h1
  obtain ⟨k, h2, h3⟩ := pz_sm_pos h1
  by_cases c : e k a = true
  · rw [if_pos c] at h3
    exact ⟨k, h2, c, decide_eq_true h3⟩
  · rw [if_neg c] at h3; exact absurd h3 (by omega)
theorem s_ends {ends ways : Nat → Int32} {post : (Nat → Int32) → (Nat → Int32) → Prop} (hE : e = cw_e ns K np Pa Pb bear) (ho : pz_ok ns K np Pa Pb) (hM : pz_M ns K np Pa Pb mst mpr) (hb : bear < 2 ^ 31) (hp : ∀ en, (∀ b, b < 2 ^ ns → en b = cy_z (cy_E e ns b)) → post en ways) : f_X5_layWays_120 (nI ns) mst (nI np) mpr post (nI bear) (nI (2 ^ ns - 1)) ends ways := by
  have hn8 := ho.1
  obtain ⟨-, h256, hN⟩ := pz_all_lt ns (by omega)
  have hok := cw_e_ok hE
  have k1 : ∀ m en, m ≤ 2 ^ ns → (∀ b, m ≤ b → b < 2 ^ ns → en b = cy_z (cy_E e ns b)) → mx_l2 (f_X5_layWays_122 (nI ns) mst (nI np) mpr post (nI bear) (nI (2 ^ ns - 1)) ways) (m + 1) (nI m - 1) en := by
    intro m
    induction m with
    | zero =>
      intro en _ hw
      exact ⟨fun _ => hp en (fun b hb => hw b (by omega) hb), fun c => absurd (by decide) c⟩
    | succ m ih =>
      intro en hm hw
      rw [nI_pred]
      have fin : f_X5_layWays_202 (nI ns) mst (nI np) mpr (mx_l2 (f_X5_layWays_122 (nI ns) mst (nI np) mpr post (nI bear) (nI (2 ^ ns - 1)) ways) (m + 1)) post (nI bear) (nI (2 ^ ns - 1)) (nI m) (cy_z (cy_E e ns m)) en ways := by
        refine ⟨vp_in_nI (by omega) (by omega), ?_⟩
        rw [nI_pm, nI_clamp (by omega), cy_nar]
        refine ih _ (by omega) (fun b h1 h2 => ?_)
        by_cases h : b = m
        · subst h; exact pk_us
        · rw [pk_un h]; exact hw b (by omega) h2
      have stop : ∀ z t, cy_E e ns m = true → mx_l2 (f_X5_layWays_141 (nI ns) mst (nI np) mpr (mx_l2 (f_X5_layWays_122 (nI ns) mst (nI np) mpr post (nI bear) (nI (2 ^ ns - 1)) ways) (m + 1)) post (nI bear) (nI (2 ^ ns - 1)) (nI m) en ways) (z + 1) 1 t := by
        intro z t h
        rw [h] at fin
        exact ⟨fun _ => fin, fun _ => ⟨fun _ => fin, fun c => absurd c (by decide)⟩⟩
      have k2 : m + 1 < 2 ^ ns → ∀ z t, t + z = ns → (∀ s, s < t → e s m = true → cy_E e ns (m ||| 2 ^ s) = false) → mx_l2 (f_X5_layWays_141 (nI ns) mst (nI np) mpr (mx_l2 (f_X5_layWays_122 (nI ns) mst (nI np) mpr post (nI bear) (nI (2 ^ ns - 1)) ways) (m + 1)) post (nI bear) (nI (2 ^ ns - 1)) (nI m) en ways) (z + 1) 0 (nI t) := by
        intro hm2 z
        induction z with
        | zero =>
          intro t ht hno
          have := cy_E_f hn8 hok hm2 (fun s hs => hno s (by omega))
          rw [this] at fin
          exact ⟨fun _ => fin, fun c => absurd (nI_le (by omega) (by omega)) c⟩
        | succ z ih2 =>
          intro t ht hno
          have next : (e t m = true → cy_E e ns (m ||| 2 ^ t) = false) → mx_l2 (f_X5_layWays_141 (nI ns) mst (nI np) mpr (mx_l2 (f_X5_layWays_122 (nI ns) mst (nI np) mpr post (nI bear) (nI (2 ^ ns - 1)) ways) (m + 1)) post (nI bear) (nI (2 ^ ns - 1)) (nI m) en ways) (z + 1) 0 (nI t + 1) := by
            intro h
            rw [nI_1]
            refine ih2 (t + 1) (by omega) (fun s hs => ?_)
            rcases Nat.lt_or_ge s t with h1 | h1
            · exact hno s h1
            · rw [show s = t by omega]; exact h
          refine ⟨fun c => absurd c (nI_ge (by omega) (by omega)), fun _ => ⟨fun c => absurd rfl c, fun _ => s_X5_has (by omega) (by omega) (fun hbit => ⟨fun _ => next ?_, fun c => absurd c (by decide)⟩) (fun hbit => ⟨fun c => absurd rfl c, fun _ => ?_⟩)⟩⟩
          · intro he
            rw [hok t m (by omega) (by omega) he] at hbit; cases hbit
          · obtain ⟨u1, u2, u3⟩ := cw_up ns (by omega) m (by omega) t (by omega) hbit
            have p := Nat.two_pow_pos t
            rw [cw_orI hn8 (by omega) (by omega), u1, nI_clamp (by omega), hw _ (by omega) u2, cy_z0]
            refine ⟨vp_in_nI (by omega) (by omega), fun c => next (fun _ => by rw [u1]; exact c), fun c => s_X5_whyBy ho hM (by omega) (by omega) hb ⟨fun c2 => next (fun z => ?_), fun c2 => ?_⟩⟩
            · rw [cw_e_f hE c2] at z; cases z
            · exact stop z _ (cy_E_t hn8 hok hm2 (by omega) (cw_e_t hE c2) (by rw [u1]; cases h : cy_E e ns (m + 2 ^ t) <;> simp_all))
      refine ⟨fun c => absurd c (nI_pos (by omega)), fun _ => ?_⟩
      rw [nI_eq (by omega) (by omega)]
      refine ⟨fun c => ⟨ns + 1, k2 (by omega) ns 0 (by omega) (fun s hs => absurd hs (by omega))⟩, fun c => ⟨1, stop 0 _ ?_⟩⟩
      rw [c]; exact cy_E_all hn8
  have := k1 (2 ^ ns) ends (Nat.le_refl _) (fun b h1 h2 => absurd h1 (by omega))
  rw [show nI (2 ^ ns) - 1 = nI (2 ^ ns - 1) from by rw [show 2 ^ ns = (2 ^ ns - 1) + 1 by omega, nI_pred]; congr 1] at this
  exact ⟨_, this⟩
theorem s_layWays {ends ways : Nat → Int32} {post : (Nat → Int32) → (Nat → Int32) → Prop} (hE : e = cw_e ns K np Pa Pb bear) (ho : pz_ok ns K np Pa Pb) (hM : pz_M ns K np Pa Pb mst mpr) (hb : bear < 2 ^ 31) (hp : ∀ en w, (∀ b, b < 2 ^ ns → en b = cy_z (cy_E e ns b)) → (∀ b, b < 2 ^ ns → w b = nI (cw_F e ns b)) → post en w) : f_X5_layWays (nI ns) mst (nI np) mpr ends ways (nI bear) post := by
  have hn8 := ho.1
  obtain ⟨-, h256, hN⟩ := pz_all_lt ns (by omega)
  have hok := cw_e_ok hE
  have k1 : ∀ z m w, m + z = 2 ^ ns → (∀ b, b < m → w b = nI (cw_F e ns b)) → mx_l2 (f_X5_layWays_11 (nI ns) mst (nI np) mpr post (nI bear) (nI (2 ^ ns - 1)) ends) (z + 1) (nI m) w := by
    intro z
    induction z with
    | zero =>
      intro m w hm hw
      exact ⟨fun _ => s_ends hE ho hM hb (fun en hen => hp en w hen (fun b hb => hw b (by omega))), fun c => absurd ((nI_ltI (by omega) (by omega)).mpr (by omega)) c⟩
    | succ z ih =>
      intro m w hm hw
      have k2 : ∀ y t w, t + y = ns → (∀ b, b < m → w b = nI (cw_F e ns b)) → w m = nI ((if m = 0 then 1 else 0) + pz_sm (fun s => if m.testBit s = true ∧ e s (m - 2 ^ s) = true then cw_F e ns (m - 2 ^ s) else 0) t) → mx_l2 (f_X5_layWays_34 (nI ns) mst (nI np) mpr (mx_l2 (f_X5_layWays_11 (nI ns) mst (nI np) mpr post (nI bear) (nI (2 ^ ns - 1)) ends) (z + 1)) post (nI bear) (nI (2 ^ ns - 1)) (nI m) ends) (y + 1) (nI t) w := by
        intro y
        induction y with
        | zero =>
          intro t w ht hw hwm
          refine ⟨fun _ => ?_, fun c => absurd (nI_le (by omega) (by omega)) c⟩
          rw [nI_1]
          refine ih (m + 1) w (by omega) (fun b hb => ?_)
          rcases Nat.lt_or_ge b m with h | h
          · exact hw b h
          · rw [show b = m by omega, hwm, cw_F_eq, show t = ns by omega]
        | succ y ih2 =>
          intro t w ht hw hwm
          have cont : ∀ v, w m + nI v = nI ((if m = 0 then 1 else 0) + pz_sm (fun s => if m.testBit s = true ∧ e s (m - 2 ^ s) = true then cw_F e ns (m - 2 ^ s) else 0) (t + 1)) → mx_l2 (f_X5_layWays_34 (nI ns) mst (nI np) mpr (mx_l2 (f_X5_layWays_11 (nI ns) mst (nI np) mpr post (nI bear) (nI (2 ^ ns - 1)) ends) (z + 1)) post (nI bear) (nI (2 ^ ns - 1)) (nI m) ends) (y + 1) (nI t + 1) (upd w m (w m + nI v)) := by
            intro v hv
            rw [nI_1]
            refine ih2 (t + 1) _ (by omega) (fun b hb => ?_) (by rw [pk_us]; exact hv)
            rw [pk_un (by omega)]; exact hw b hb
          have no : ¬ (m.testBit t = true ∧ e t (m - 2 ^ t) = true) → f_X5_layWays_74 (nI ns) mst (nI np) mpr (mx_l2 (f_X5_layWays_11 (nI ns) mst (nI np) mpr post (nI bear) (nI (2 ^ ns - 1)) ends) (z + 1)) (mx_l2 (f_X5_layWays_34 (nI ns) mst (nI np) mpr (mx_l2 (f_X5_layWays_11 (nI ns) mst (nI np) mpr post (nI bear) (nI (2 ^ ns - 1)) ends) (z + 1)) post (nI bear) (nI (2 ^ ns - 1)) (nI m) ends) (y + 1)) post (nI bear) (nI (2 ^ ns - 1)) (nI m) (nI t) ends w := by
            intro h
            refine ⟨vp_in_nI (by omega) (by omega), fun _ => ⟨vp_in_nI (by omega) (by omega), ?_⟩, fun c => absurd rfl c⟩
            rw [nI_clamp (by omega)]
            refine cont 0 ?_
            rw [hwm, nI_add, pz_sm, if_neg h, Nat.add_assoc]
          refine ⟨fun c => absurd c (nI_ge (by omega) (by omega)), fun _ => s_X5_has (by omega) (by omega) (fun hbit => ⟨fun c => absurd c (by decide), fun _ => ?_⟩) (fun hbit => ⟨fun _ => no (fun z => ?_), fun c => absurd rfl c⟩)⟩
          · have h1 := cw_bit_le hbit
            have p := Nat.two_pow_pos t
            have eo : nI m &&& (((1 : Int32) <<< (nI t &&& 31)) ^^^ (-1)) = nI (m - 2 ^ t) := by rw [pz_off m (by omega) t (by omega), if_pos hbit]
            rw [eo]
            refine s_X5_whyBy ho hM (by omega) (by omega) hb ⟨fun c => no (fun z => ?_), fun c => ⟨vp_in_nI (by omega) (by omega), fun c2 => absurd c2 (by decide), fun _ => ?_⟩⟩
            · rw [cw_e_f hE c] at z; exact absurd z.2 (by simp)
            · rw [eo, nI_clamp (n := m - 2 ^ t) (by omega), hw (m - 2 ^ t) (by omega)]
              refine ⟨vp_in_nI (by omega) (by omega), vp_in_nI (by omega) (by omega), ?_⟩
              rw [nI_clamp (by omega)]
              refine cont _ ?_
              rw [hwm, nI_add, pz_sm, if_pos (show m.testBit t = true ∧ e t (m - 2 ^ t) = true from ⟨hbit, cw_e_t hE c⟩), Nat.add_assoc]
          · rw [hbit] at z; exact absurd z.1 (by simp)
      refine ⟨fun c => absurd ((nI_ltI (by omega) (by omega)).mp c) (by omega), fun _ => ⟨fun c => ⟨vp_in_nI (by omega) (by omega), ns + 1, ?_⟩, fun c => ⟨vp_in_nI (by omega) (by omega), ns + 1, ?_⟩⟩⟩
      · have c2 : m ≠ 0 := fun z => c (by rw [z]; rfl)
        rw [nI_clamp (by omega)]
        refine k2 ns 0 _ (by omega) (fun b hb => ?_) ?_
        · rw [pk_un (by omega)]; exact hw b hb
        · rw [pk_us, if_neg c2]; rfl
      · have c2 : m = 0 := (nI_eq0 (by omega)).mp c
        rw [nI_clamp (by omega)]
        refine k2 ns 0 _ (by omega) (fun b hb => ?_) ?_
        · rw [pk_un (by omega)]; exact hw b hb
        · rw [pk_us, if_pos c2]; rfl
  show ∃ n, mx_l2 _ _ _ _
  rw [pz_all ns (by omega)]
  exact ⟨2 ^ ns + 1, k1 (2 ^ ns) 0 ways (by omega) (fun b hb => absurd hb (by omega))⟩
end CY
