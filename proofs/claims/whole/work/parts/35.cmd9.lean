section CU
variable {ns np nb so n d : Nat} {K : Nat → Nat → Nat} {Pa Pb Wd O : Nat → Nat} {xs xp xb xs2 xc : Int32} {xk xw xt xh xf xa xv : Nat → Int32} {ms mj mo mp : Int32} {mst mpr mwd : Nat → Int32} {xn xd : Int32} {xo mr : Nat → Int32} {e : Nat → Nat → Bool}
/-! the first order -/
def cu_ls (good : Nat → Bool) : Nat → Nat → Nat
  | 0, i => i
  | k + 1, i => if good i = true then i else cu_ls good k (i + 1)
theorem cu_ls_ok {good : Nat → Bool} : ∀ (k i : Nat), (∃ s, i ≤ s ∧ s < i + k ∧ good s = true) → good (cu_ls good k i) = true ∧ i ≤ cu_ls good k i ∧ cu_ls good k i < i + k ∧ ∀ j, i ≤ j → j < cu_ls good k i → good j = false
  | 0, i, ⟨s, h1, h2, _⟩ => absurd h2 (by omega)
  | k + 1, i, ⟨s, h1, h2, h3⟩ => by
    rw [cu_ls]
    by_cases c : good i = true
    · rw [if_pos c]
      exact ⟨c, by omega, by omega, fun j a b => absurd b (by omega)⟩
    · rw [if_neg c]
      have hs : i ≠ s := fun z => c (by rw [z]; exact h3)
      obtain ⟨q1, q2, q3, q4⟩ := cu_ls_ok k (i + 1) ⟨s, by omega, by omega, h3⟩
      refine ⟨q1, by omega, by omega, fun j a b => ?_⟩
      rcases Nat.eq_or_lt_of_le a with h | h
      · rw [← h]; exact pz_tf c
      · exact q4 j h b
def cu_gd (e : Nat → Nat → Bool) (ns set s : Nat) : Bool := e s set && cy_E e ns (set ||| 2 ^ s)
def cu_nx (e : Nat → Nat → Bool) (ns set : Nat) : Nat := cu_ls (cu_gd e ns set) ns 0
def cu_st (e : Nat → Nat → Bool) (ns : Nat) : Nat → Nat
  | 0 => 0
  | k + 1 => cu_st e ns k ||| 2 ^ cu_nx e ns (cu_st e ns k)
def cu_ok (e : Nat → Nat → Bool) (ns set s : Nat) : Prop := set < 2 ^ ns ∧ s < ns ∧ cu_gd e ns set s = true ∧ ∀ j, j < s → cu_gd e ns set j = false
theorem cu_st_ok (hn : ns ≤ 8) (he : cw_ok e ns) (h0 : cy_E e ns 0 = true) : ∀ k, k ≤ ns → cu_st e ns k < 2 ^ ns ∧ pz_pc (cu_st e ns k) = k ∧ cy_E e ns (cu_st e ns k) = true ∧ (k < ns → cu_ok e ns (cu_st e ns k) (cu_nx e ns (cu_st e ns k))) := by
  obtain ⟨-, h256, hN⟩ := pz_all_lt ns (by omega)
  have nxt : ∀ k, k < ns → cu_st e ns k < 2 ^ ns → pz_pc (cu_st e ns k) = k → cy_E e ns (cu_st e ns k) = true → cu_ok e ns (cu_st e ns k) (cu_nx e ns (cu_st e ns k)) := by
    intro k hk h1 h2 h3
    have hne : cu_st e ns k ≠ 2 ^ ns - 1 := by
      intro z
      have := cw_pca ns (by omega)
      rw [← z, h2] at this
      omega
    obtain ⟨s, q1, q2, q3⟩ := cy_E_ex hn he (by omega) h3
    obtain ⟨p1, p2, p3, p4⟩ := cu_ls_ok (good := cu_gd e ns (cu_st e ns k)) ns 0 ⟨s, by omega, by omega, by unfold cu_gd; rw [q2, q3]; rfl⟩
    exact ⟨h1, by unfold cu_nx; omega, p1, fun j hj => p4 j (by omega) hj⟩
  intro k
  induction k with
  | zero =>
    intro _
    exact ⟨hN, (by decide : pz_pc 0 = 0), h0, fun hk => nxt 0 hk hN (by decide : pz_pc 0 = 0) h0⟩
  | succ k ih =>
    intro hk
    obtain ⟨h1, h2, h3, h4⟩ := ih (by omega)
    obtain ⟨q1, q2, q3, q4⟩ := h4 (by omega)
    obtain ⟨q5, q6⟩ := (Bool.and_eq_true _ _ ▸ q3 : _ ∧ _)
    have hb := he _ _ q2 h1 q5
    obtain ⟨u1, u2, u3⟩ := cw_up ns (by omega) _ h1 _ q2 hb
    have r1 : cu_st e ns (k + 1) < 2 ^ ns := by rw [cu_st, u1]; exact u2
    have r2 : pz_pc (cu_st e ns (k + 1)) = k + 1 := by rw [cu_st, cw_pcu _ (by omega) _ (by omega) hb, h2]
    have r3 : cy_E e ns (cu_st e ns (k + 1)) = true := by rw [cu_st]; exact q6
    exact ⟨r1, r2, r3, fun hk => nxt (k + 1) hk r1 r2 r3⟩
theorem s_least {set s0 : Nat} {w : Nat → Int32} {post : Int32 → Prop} (hE : e = cw_e ns K np Pa Pb nb) (ho : pz_ok ns K np Pa Pb) (hX : pz_X ns K np Pa Pb xc xk xw xt xh xf xa) (hb : nb < 2 ^ 31) (hw : ∀ b, b < 2 ^ ns → w b = nI (cw_B e ns b)) (h : cu_ok e ns set s0) (hp : post (nI s0)) : f_X4_leastWithWayOn (nI ns) xw xf (nI nb) xk xc xa xt w (nI set) post := by
  have hn8 := ho.1
  obtain ⟨-, h256, hN⟩ := pz_all_lt ns (by omega)
  obtain ⟨h1, h2, h3, h4⟩ := h
  have hok := cw_e_ok hE
  have key : ∀ z s, s + z = s0 → mx_l1 (f_X4_leastWithWayOn_11 (nI ns) xw xf (nI nb) xk xc xa xt w post (nI set) (nI (pz_ld ns K set))) (z + 1) (nI s) := by
    intro z
    have good : ∀ s, s ≤ s0 → (again : Int32 → Prop) → (cu_gd e ns set s = false → again (nI (s + 1))) → (cu_gd e ns set s = true → post (nI s)) → f_X4_leastWithWayOn_11 (nI ns) xw xf (nI nb) xk xc xa xt w post (nI set) (nI (pz_ld ns K set)) again (nI s) := by
      intro s hs again a1 a2
      refine ⟨fun c => absurd c (nI_ge (by omega) (by omega)), fun _ => s_X1_whyNot ho hX (by omega) (by omega) hb ⟨fun c => ?_, fun c => ?_⟩⟩
      · rw [nI_1]; exact a1 (by unfold cu_gd; rw [cw_e_f hE c]; rfl)
      · have he := cw_e_t hE c
        obtain ⟨u1, u2, u3⟩ := cw_up ns (by omega) set h1 s (by omega) (hok s set (by omega) h1 he)
        have hB := cw_B_lt hn8 hok u2
        rw [cw_orI hn8 h1 (by omega), u1, nI_clamp (by omega), hw _ u2, show nI (cw_B e ns (set + 2 ^ s)) ≤ 0 ↔ cw_B e ns (set + 2 ^ s) ≤ 0 from nI_leI (b := 0) (by omega) (by omega), nI_1]
        refine ⟨vp_in_nI (by omega) (by omega), fun c2 => a1 ?_, fun c2 => a2 ?_⟩
        · unfold cu_gd cy_E; rw [he, u1, Bool.true_and]; exact decide_eq_false (by omega)
        · unfold cu_gd cy_E; rw [he, u1, Bool.true_and]; exact decide_eq_true (by omega)
    induction z with
    | zero =>
      intro s hs
      refine good s (by omega) _ (fun c => ?_) (fun _ => by rw [show s = s0 by omega]; exact hp)
      rw [show s = s0 by omega, h3] at c; cases c
    | succ z ih =>
      intro s hs
      refine good s (by omega) _ (fun _ => ih (s + 1) (by omega)) (fun c => ?_)
      rw [h4 s (by omega)] at c; cases c
  exact s_X1_load ho hX (by omega) ⟨s0 + 1, key s0 0 (by omega)⟩
theorem s_X4_first {i : Nat} {w : Nat → Int32} {post : Int32 → Prop} (hE : e = cw_e ns K np Pa Pb nb) (ho : pz_ok ns K np Pa Pb) (hX : pz_X ns K np Pa Pb xc xk xw xt xh xf xa) (hb : nb < 2 ^ 31) (hw : ∀ b, b < 2 ^ ns → w b = nI (cw_B e ns b)) (h0 : cy_E e ns 0 = true) (hi : i < ns) (hp : post (nI (cu_nx e ns (cu_st e ns i)))) : f_X4_ofFirstOrder (nI ns) xw xf (nI nb) xk xc xa xt w (nI i) post := by
  have hn8 := ho.1
  obtain ⟨-, h256, hN⟩ := pz_all_lt ns (by omega)
  have hok := cw_e_ok hE
  have key : ∀ z k f, k + z = i + 1 → (0 < k → f = nI (cu_nx e ns (cu_st e ns (k - 1)))) → mx_l3 (f_X4_ofFirstOrder_7 (nI ns) xw xf (nI nb) xk xc xa xt w post (nI i)) (z + 1) (nI (cu_st e ns k)) f (nI k) := by
    intro z
    induction z with
    | zero =>
      intro k f hk hf
      refine ⟨fun _ => ?_, fun c => absurd ((nI_ltI (by omega) (by omega)).mpr (by omega)) c⟩
      rw [hf (by omega), show k - 1 = i by omega]; exact hp
    | succ z ih =>
      intro k f hk hf
      obtain ⟨q1, q2, q3, q4⟩ := cu_st_ok hn8 hok h0 k (by omega)
      have q5 := q4 (by omega)
      have q6 := q5.2.1
      refine ⟨fun c => absurd ((nI_ltI (by omega) (by omega)).mp c) (by omega), fun _ => ⟨fun c => absurd c (nI_ge (by omega) (by omega)), fun _ => s_least hE ho hX hb hw q5 ⟨fun _ => ?_, fun c => absurd c (nI_nm1 (by omega))⟩⟩⟩
      rw [cw_orI hn8 q1 q6, nI_1]
      exact ih (k + 1) _ (by omega) (fun _ => by rw [show k + 1 - 1 = k by omega])
  exact ⟨i + 2, key (i + 1) 0 (-1) (by omega) (fun h => absurd h (by omega))⟩
theorem s_X5_first {i : Nat} {w en : Nat → Int32} {post : Int32 → (Nat → Int32) → (Nat → Int32) → Prop} (hE : e = cw_e ns K np Pa Pb nb) (ho : pz_ok ns K np Pa Pb) (hM : pz_M ns K np Pa Pb mst mpr) (hb : nb < 2 ^ 31) (hen : ∀ b, b < 2 ^ ns → en b = cy_z (cy_E e ns b)) (h0 : cy_E e ns 0 = true) (hi : i < ns) (hp : post (nI (cu_nx e ns (cu_st e ns i))) en w) : ∃ N, mx_l3 (f_X5_orders_59 (nI nb) (nI ns) mst (nI np) mpr post (nI i) en w) N 0 (-1) 0 := by
  have hn8 := ho.1
  obtain ⟨-, h256, hN⟩ := pz_all_lt ns (by omega)
  have hok := cw_e_ok hE
  have key : ∀ z k f, k + z = i + 1 → (0 < k → f = nI (cu_nx e ns (cu_st e ns (k - 1)))) → mx_l3 (f_X5_orders_59 (nI nb) (nI ns) mst (nI np) mpr post (nI i) en w) (z + 1) (nI (cu_st e ns k)) f (nI k) := by
    intro z
    induction z with
    | zero =>
      intro k f hk hf
      refine ⟨fun _ => ?_, fun c => absurd ((nI_ltI (by omega) (by omega)).mpr (by omega)) c⟩
      rw [hf (by omega), show k - 1 = i by omega]; exact hp
    | succ z ih =>
      intro k f hk hf
      obtain ⟨q1, q2, q3, q4⟩ := cu_st_ok hn8 hok h0 k (by omega)
      obtain ⟨-, q6, q7, q8⟩ := q4 (by omega)
      refine ⟨fun c => absurd ((nI_ltI (by omega) (by omega)).mp c) (by omega), fun _ => ?_⟩
      have inner : ∀ m f, m ≤ ns → (m ≤ cu_nx e ns (cu_st e ns k) → f = nI (cu_nx e ns (cu_st e ns k))) → mx_l2 (f_X5_orders_76 (nI nb) (nI ns) mst (nI np) mpr (mx_l3 (f_X5_orders_59 (nI nb) (nI ns) mst (nI np) mpr post (nI i) en w) (z + 1)) post (nI i) (nI (cu_st e ns k)) (nI k) en w) (m + 1) f (nI m - 1) := by
        intro m
        induction m with
        | zero =>
          intro f _ hf
          refine ⟨fun _ => ?_, fun c => absurd (by decide) c⟩
          unfold f_X5_orders_124
          rw [hf (by omega), cw_orI hn8 q1 q6, nI_1]
          exact ih (k + 1) _ (by omega) (fun _ => by rw [show k + 1 - 1 = k by omega])
        | succ m ihm =>
          intro f hm hf
          rw [nI_pred]
          have no : cu_gd e ns (cu_st e ns k) m = false → m ≤ cu_nx e ns (cu_st e ns k) → f = nI (cu_nx e ns (cu_st e ns k)) := by
            intro h1 h2
            rcases Nat.eq_or_lt_of_le h2 with h | h
            · rw [← h, h1] at q7; cases q7
            · exact hf h
          refine ⟨fun c => absurd c (nI_pos (by omega)), fun _ => s_X5_whyBy ho hM (by omega) (by omega) hb ⟨fun c => ?_, fun c => ?_⟩⟩
          · rw [nI_pm]; exact ihm f (by omega) (no (by unfold cu_gd; rw [cw_e_f hE c]; rfl))
          · have he := cw_e_t hE c
            obtain ⟨u1, u2, u3⟩ := cw_up ns (by omega) _ q1 m (by omega) (hok m _ (by omega) q1 he)
            rw [cw_orI hn8 q1 (by omega), u1, nI_clamp (by omega), hen _ u2, cy_z0, nI_pm]
            refine ⟨vp_in_nI (by omega) (by omega), fun c2 => ihm f (by omega) (no ?_), fun c2 => ihm _ (by omega) (fun h2 => ?_)⟩
            · unfold cu_gd; rw [he, u1, c2]; rfl
            · rcases Nat.eq_or_lt_of_le h2 with h | h
              · rw [h]
              · have := q8 m h
                unfold cu_gd at this
                rw [he, u1, Bool.true_and] at this
                exact absurd this c2
      exact ⟨ns + 1, inner ns (-1) (Nat.le_refl _) (fun h => absurd h (by omega))⟩
  exact ⟨_, key (i + 1) 0 (-1) (by omega) (fun h => absurd h (by omega))⟩
theorem cu_m1 {x : Int32} (h1 : (-1) ≤ x) (h2 : ¬ x = -1) : ∃ j, j < 2 ^ 31 ∧ x = nI j := by
  have h3 : ¬ x < 0 := by
    intro h
    apply h2
    rw [Int32.lt_iff_toInt_lt] at h
    rw [Int32.le_iff_toInt_le] at h1
    apply Int32.toInt_inj.mp
    have a1 : (0 : Int32).toInt = 0 := rfl
    have a2 : (-1 : Int32).toInt = -1 := rfl
    rw [a2] at h1 ⊢
    rw [a1] at h
    omega
  exact nI_of h3
theorem j_orders {x : Int32} {xw2 en mw : Nat → Int32} {post : Int32 → (Nat → Int32) → Int32 → (Nat → Int32) → (Nat → Int32) → Prop} (hs : cz_S ns K np Pa Pb nb so Wd xs xp xb xs2 xc xk xw xt xh xf xa xv ms mj mo mp mst mpr mwd) (hp : ∀ r a b c, post r a r b c) : f_X4_orders xs xw xf xb xk xc xa xt xw2 x (fun r a => f_X5_orders mj ms mst mp mpr en mw x (fun r2 b c => post r a r2 b c)) := by
  obtain ⟨ho, hnb, hso, hWd, ⟨e1, e2, e3, e4⟩, hX, hv, ⟨g1, g2, g3, g4⟩, hM, -⟩ := hs
  have hn8 := ho.1
  obtain ⟨-, h256, hN⟩ := pz_all_lt ns (by omega)
  have hok : cw_ok (cw_e ns K np Pa Pb nb) ns := cw_e_ok rfl
  have hB := cw_B_lt hn8 hok hN
  have hM1 := cw_main hn8 hok
  have v0 : vp_in 0 256 := vp_in_nI (n := 0) (by omega) (by omega)
  rw [e1, e3, g1, g2, g4]
  have lay : ∀ {P : Int32 → (Nat → Int32) → (Nat → Int32) → Prop}, (-1) ≤ x → (∀ u2 u3 : Nat → Int32, (∀ b, b < 2 ^ ns → u2 b = cy_z (cy_E (cw_e ns K np Pa Pb nb) ns b)) → u3 (2 ^ ns - 1) = nI (cw_B (cw_e ns K np Pa Pb nb) ns 0) → ((¬ x = (-1) → (((u3 (2 ^ ns - 1)) = 0 → (P (-1) u2 u3)) ∧ (¬ (u3 (2 ^ ns - 1)) = 0 → ((x < nI ns → (∃ n : Nat, mx_l3 (f_X5_orders_59 (nI nb) (nI ns) mst (nI np) mpr P x u2 u3) n 0 (-1) 0)) ∧ (¬ x < nI ns → (P (-1) u2 u3)))))) ∧ (x = (-1) → (P (u3 (2 ^ ns - 1)) u2 u3)))) → f_X5_orders (nI nb) (nI ns) mst (nI np) mpr en mw x P := by
    intro P c h
    refine ⟨fun _ => s_layWays rfl ho hM (by omega) (fun u2 u3 h2 h3 => ?_), fun c2 => absurd c c2⟩
    rw [pz_all ns (by omega), nI_clamp (by omega)]
    exact ⟨vp_in_nI (by omega) (by omega), h u2 u3 h2 (by rw [h3 _ (by omega), hM1])⟩
  refine ⟨fun c => s_waysOn rfl ho hX (by omega) (fun w' hw' => ⟨fun c2 => ⟨v0, ?_⟩, fun c2 => ⟨v0, lay c (fun u2 u3 h2 h3 => ⟨fun c3 => absurd c2 c3, fun _ => ?_⟩)⟩⟩), fun c => ⟨fun c2 => absurd c2 c, fun _ => hp _ _ _ _⟩⟩
  · obtain ⟨i, hi, rfl⟩ := cu_m1 c c2
    rw [ix_0, hw' 0 hN]
    refine ⟨fun c3 => lay c (fun u2 u3 h2 h3 => ⟨fun _ => ⟨fun _ => hp _ _ _ _, fun c4 => absurd (h3.trans c3) c4⟩, fun c4 => absurd c4 c2⟩), fun c3 => ⟨fun c4 => ?_, fun c4 => lay c (fun u2 u3 h2 h3 => ⟨fun _ => ⟨fun c5 => absurd (h3.symm.trans c5) c3, fun _ => ⟨fun c5 => absurd c5 c4, fun _ => hp _ _ _ _⟩⟩, fun c4 => absurd c4 c2⟩)⟩⟩
    have hin : i < ns := (nI_ltI (by omega) (by omega)).mp c4
    have hE0 : cy_E (cw_e ns K np Pa Pb nb) ns 0 = true := decide_eq_true (by
      rcases Nat.eq_zero_or_pos (cw_B (cw_e ns K np Pa Pb nb) ns 0) with h | h
      · rw [h] at c3; exact absurd rfl c3
      · exact h)
    refine s_X4_first rfl ho hX (by omega) hw' hE0 hin (lay c (fun u2 u3 h2 h3 => ⟨fun _ => ⟨fun c5 => absurd (h3.symm.trans c5) c3, fun _ => ⟨fun _ => s_X5_first rfl ho hM (by omega) h2 hE0 hin (hp _ _ _ _), fun c5 => absurd c4 c5⟩⟩, fun c4 => absurd c4 c2⟩))
  · rw [ix_0, hw' 0 hN, h3]
    exact hp _ _ _ _
end CU
