section CV
variable {ns np nb so n d bear : Nat} {K : Nat → Nat → Nat} {Pa Pb Wd O : Nat → Nat} {xs xp xb xs2 xc : Int32} {xk xw xt xh xf xa xv : Nat → Int32} {ms mj mo mp : Int32} {mst mpr mwd : Nat → Int32} {xn xd : Int32} {xo mr : Nat → Int32} {e : Nat → Nat → Bool}
theorem s_all {post : Int32 → Prop} (hn : ns ≤ 8) (hp : post (nI (2 ^ ns - 1))) : f_X1_all (nI ns) post := by
  unfold f_X1_all
  rw [pz_all ns (by omega)]
  exact hp
/-! the tallest -/
def cx_tb (F hg : Nat → Nat) : Nat → Nat → Nat → Nat
  | 0, _, best => best
  | k + 1, set, best => cx_tb F hg k (set + 1) (if 0 < F set ∧ hg best < hg set then set else best)
theorem s_X4_tallest {x : Int32} {w : Nat → Int32} {post : Int32 → (Nat → Int32) → Prop} (ho : pz_ok ns K np Pa Pb) (hX : pz_X ns K np Pa Pb xc xk xw xt xh xf xa) (hw : ∀ b, b < 2 ^ ns → w b = nI (cw_F e ns b)) (hp : ∀ best, best < 256 → best = cx_tb (cw_F e ns) (pz_hg ns K) (2 ^ ns - 1) 1 0 → (x = 0 → post (nI (pz_hg ns K best)) w) ∧ (¬ x = 0 → post (nI best) w)) : ∃ N, mx_l3 (f_X4_tallest_30 xb (nI ns) xw xf xk xc xa xt xh post x w) N 0 0 1 := by
  have hn8 := ho.1
  obtain ⟨-, h256, hN⟩ := pz_all_lt ns (by omega)
  have key : ∀ z set best, set + z = 2 ^ ns → best < 256 → cx_tb (cw_F e ns) (pz_hg ns K) (2 ^ ns - 1) 1 0 = cx_tb (cw_F e ns) (pz_hg ns K) z set best → mx_l3 (f_X4_tallest_30 xb (nI ns) xw xf xk xc xa xt xh post x w) (z + 1) (nI best) (nI (pz_hg ns K best)) (nI set) := by
    intro z
    induction z with
    | zero =>
      intro set best hz hb h
      show f_X4_tallest_30 xb (nI ns) xw xf xk xc xa xt xh post x w (mx_l3 (f_X4_tallest_30 xb (nI ns) xw xf xk xc xa xt xh post x w) _) _ _ _
      refine s_all hn8 ?_
      refine ⟨fun _ => ?_, fun c => absurd ((nI_ltI (by omega) (by omega)).mpr (by omega)) c⟩
      obtain ⟨q1, q2⟩ := hp best hb h.symm
      exact ⟨q2, q1⟩
    | succ z ih =>
      intro set best hz hb h
      have hg1 := pz_hg_le ho best
      have hg2 := pz_hg_le ho set
      have hF := cw_F_lt (e := e) hn8 (b := set) (by omega)
      rw [cx_tb] at h
      show f_X4_tallest_30 xb (nI ns) xw xf xk xc xa xt xh post x w (mx_l3 (f_X4_tallest_30 xb (nI ns) xw xf xk xc xa xt xh post x w) _) _ _ _
      refine s_all hn8 ?_
      refine ⟨fun c => absurd ((nI_ltI (by omega) (by omega)).mp c) (by omega), fun _ => ⟨vp_in_nI (by omega) (by omega), ?_⟩⟩
      rw [nI_clamp (by omega), hw set (by omega)]
      refine ⟨fun c => ?_, fun c => ?_⟩
      · have c2 : cw_F e ns set = 0 := by have := (nI_leI (b := 0) (by omega) (by omega)).mp c; omega
        rw [if_neg (by omega)] at h
        refine ⟨fun _ => ?_, fun c => absurd (nI_le (a := 0) (by omega) (by omega)) c⟩
        rw [nI_1]
        exact ih (set + 1) best (by omega) hb h
      · have c2 : 0 < cw_F e ns set := by
          rcases Nat.eq_zero_or_pos (cw_F e ns set) with h0 | h0
          · rw [h0] at c; exact absurd (by decide) c
          · exact h0
        refine s_X1_heightOf ho hX (by omega) ?_
        unfold f_X4_tallest_65
        rw [nI_leI (by omega) (by omega), nI_1]
        refine ⟨fun c3 => ?_, fun c3 => ?_⟩
        · rw [if_neg (by omega)] at h
          exact ih (set + 1) best (by omega) hb h
        · rw [if_pos (by omega)] at h
          exact ih (set + 1) set (by omega) (by omega) h
  have h0 : nI (pz_hg ns K 0) = 0 := by
    have : pz_hg ns K 0 = 0 := pz_sm_zero ns (fun k hk => by simp [pz_on])
    rw [this]; rfl
  have := key (2 ^ ns - 1) 1 0 (by omega) (by omega) rfl
  rw [h0] at this
  exact ⟨_, this⟩
theorem s_X5_tallest {x : Int32} {w en : Nat → Int32} {post : Int32 → (Nat → Int32) → (Nat → Int32) → Prop} (ho : pz_ok ns K np Pa Pb) (hM : pz_M ns K np Pa Pb mst mpr) (hw : ∀ b, b < 2 ^ ns → w b = nI (cw_F e ns b)) (hp : ∀ best, best < 256 → best = cx_tb (cw_F e ns) (pz_hg ns K) (2 ^ ns - 1) 1 0 → (x = 0 → post (nI (pz_hg ns K best)) en w) ∧ (¬ x = 0 → post (nI best) en w)) : ∃ N, mx_l2 (f_X5_tallest_24 mj (nI ns) mst mp mpr post x en w) N 0 1 := by
  have hn8 := ho.1
  obtain ⟨-, h256, hN⟩ := pz_all_lt ns (by omega)
  have key : ∀ z set best, set + z = 2 ^ ns → best < 256 → cx_tb (cw_F e ns) (pz_hg ns K) (2 ^ ns - 1) 1 0 = cx_tb (cw_F e ns) (pz_hg ns K) z set best → mx_l2 (f_X5_tallest_24 mj (nI ns) mst mp mpr post x en w) (z + 1) (nI best) (nI set) := by
    intro z
    induction z with
    | zero =>
      intro set best hz hb h
      show _ ∧ _
      rw [pz_shl ns (by omega)]
      refine ⟨fun _ => ?_, fun c => absurd (nI_le (by omega) (by omega)) c⟩
      obtain ⟨q1, q2⟩ := hp best hb h.symm
      exact ⟨q2, fun c => s_X5_highOf ho hM hb (q1 c)⟩
    | succ z ih =>
      intro set best hz hb h
      have hg1 := pz_hg_le ho best
      have hg2 := pz_hg_le ho set
      have hF := cw_F_lt (e := e) hn8 (b := set) (by omega)
      rw [cx_tb] at h
      show _ ∧ _
      rw [pz_shl ns (by omega)]
      refine ⟨fun c => absurd c (nI_ge (by omega) (by omega)), fun _ => ⟨vp_in_nI (by omega) (by omega), ?_⟩⟩
      rw [nI_clamp (by omega), hw set (by omega), nI_1]
      refine ⟨fun c => ?_, fun c => ?_⟩
      · have c2 : cw_F e ns set = 0 := by have := (nI_leI (b := 0) (by omega) (by omega)).mp c; omega
        rw [if_neg (by omega)] at h
        exact ih (set + 1) best (by omega) hb h
      · have c2 : 0 < cw_F e ns set := by
          rcases Nat.eq_zero_or_pos (cw_F e ns set) with h0 | h0
          · rw [h0] at c; exact absurd (by decide) c
          · exact h0
        refine s_X5_highOf ho hM (by omega) (s_X5_highOf ho hM hb ?_)
        rw [nI_leI (by omega) (by omega)]
        refine ⟨fun c3 => ?_, fun c3 => ?_⟩
        · rw [if_neg (by omega)] at h
          exact ih (set + 1) best (by omega) hb h
        · rw [if_pos (by omega)] at h
          exact ih (set + 1) set (by omega) (by omega) h
  exact ⟨_, key (2 ^ ns - 1) 1 0 (by omega) (by omega) rfl⟩
theorem j_tallest {x : Int32} {xw2 en mw : Nat → Int32} {post : Int32 → (Nat → Int32) → Int32 → (Nat → Int32) → (Nat → Int32) → Prop} (hs : cz_S ns K np Pa Pb nb so Wd xs xp xb xs2 xc xk xw xt xh xf xa xv ms mj mo mp mst mpr mwd) (hp : ∀ r a b c, post r a r b c) : f_X4_tallest xb xs xw xf xk xc xa xt xh xw2 x (fun r a => f_X5_tallest mj ms mst mp mpr en mw x (fun r2 b c => post r a r2 b c)) := by
  obtain ⟨ho, hnb, hso, hWd, ⟨e1, e2, e3, e4⟩, hX, hv, ⟨g1, g2, g3, g4⟩, hM, -⟩ := hs
  rw [e1, e3, g1, g2, g4]
  refine ⟨fun c => ?_, fun c => ⟨fun c2 => ?_, fun c2 => ?_⟩⟩
  · exact ⟨fun _ => ⟨fun c3 => absurd rfl c3, fun _ => hp _ _ _ _⟩, fun c3 => absurd c c3⟩
  · refine s_waysTo (bear := nb) rfl ho hX (by omega) (fun w' hw' => s_X4_tallest ho hX hw' (fun best hb hb2 => ⟨fun hx => ?_, fun hx => ?_⟩))
    · refine ⟨fun c3 => absurd c3 c, fun _ => ⟨fun c3 => absurd c2 (Int32.not_le.mpr c3), fun _ => ⟨fun _ => s_layWays (bear := nb) rfl ho hM (by omega) (fun en w hen hw => s_X5_tallest ho hM hw (fun best2 h1 h2 => ⟨fun hx2 => ?_, fun hx2 => absurd hx hx2⟩)), fun c3 => absurd c3 (by decide)⟩⟩⟩
      rw [h2, ← hb2]
      exact hp _ _ _ _
    · refine ⟨fun c3 => absurd c3 c, fun _ => ⟨fun c3 => absurd c2 (Int32.not_le.mpr c3), fun _ => ⟨fun _ => s_layWays (bear := nb) rfl ho hM (by omega) (fun en w hen hw => s_X5_tallest ho hM hw (fun best2 h1 h2 => ⟨fun hx2 => absurd hx2 hx, fun hx2 => ?_⟩)), fun c3 => absurd c3 (by decide)⟩⟩⟩
      rw [h2, ← hb2]
      exact hp _ _ _ _
  · exact ⟨fun c3 => absurd c3 c, fun _ => ⟨fun _ => ⟨fun c3 => absurd rfl c3, fun _ => hp _ _ _ _⟩, fun c3 => absurd (Int32.not_le.mp c2) c3⟩⟩
/-! the least jacks -/
def cx_jk (ok : Nat → Bool) (ld : Nat → Nat) : Nat → Nat → Int32 → Int32
  | 0, _, l => l
  | k + 1, s, l => cx_jk ok ld k (s + 1) (if ok s = true then (if l = -1 then nI (ld s) else if l ≤ nI (ld s) then l else nI (ld s)) else l)
theorem cx_all (hn : ns ≤ 8) {s : Nat} (hs : s < ns) : nI (2 ^ ns - 1) &&& (((1 : Int32) <<< (nI s &&& 31)) ^^^ (-1)) = nI (2 ^ ns - 1 - 2 ^ s) := by
  have := (pz_all_lt ns (by omega)).1
  rw [pz_off _ this s (by omega), if_pos]
  rw [Nat.testBit_two_pow_sub_one]; exact decide_eq_true hs
theorem s_X4_jacks {w : Nat → Int32} {post : Int32 → (Nat → Int32) → Prop} (hE : e = cw_e ns K np Pa Pb 9999) (ho : pz_ok ns K np Pa Pb) (hX : pz_X ns K np Pa Pb xc xk xw xt xh xf xa) (hw : ∀ b, b < 2 ^ ns → w b = nI (cw_F e ns b)) : ∀ z s l, s + z = ns → post (cx_jk (fun s => decide (0 < cw_F e ns (2 ^ ns - 1 - 2 ^ s)) && e s (2 ^ ns - 1 - 2 ^ s)) (fun s => pz_ld ns K (2 ^ ns - 1 - 2 ^ s)) z s l) w → mx_l2 (f_X4_jacks_23 (nI ns) xw xf xk xc xa xt post w) (z + 1) l (nI s) := by
  have hn8 := ho.1
  obtain ⟨-, h256, hN⟩ := pz_all_lt ns (by omega)
  intro z
  induction z with
  | zero =>
    intro s l hz hp
    exact ⟨fun _ => hp, fun c => absurd (nI_le (by omega) (by omega)) c⟩
  | succ z ih =>
    intro s l hz hp
    have hl1 : 2 ^ ns - 1 - 2 ^ s < 2 ^ ns := Nat.lt_of_le_of_lt (Nat.sub_le _ _) (by omega)
    have hl2 : 2 ^ ns - 1 - 2 ^ s < 256 := Nat.lt_of_lt_of_le hl1 h256
    have hF := cw_F_lt (e := e) hn8 hl2
    rw [cx_jk] at hp
    refine ⟨fun c => absurd c (nI_ge (by omega) (by omega)), fun _ => ?_⟩
    refine s_all hn8 ?_
    rw [cx_all hn8 (by omega)]
    refine s_X1_load ho hX hl2 ⟨vp_in_nI hl2 (by omega), ?_⟩
    rw [nI_clamp (Nat.lt_trans hl2 (by omega)), hw _ hl1]
    have no : (decide (0 < cw_F e ns (2 ^ ns - 1 - 2 ^ s)) && e s (2 ^ ns - 1 - 2 ^ s)) = false → f_X4_jacks_88 (nI ns) xw xf xk xc xa xt (mx_l2 (f_X4_jacks_23 (nI ns) xw xf xk xc xa xt post w) (z + 1)) post l (nI s) (nI (pz_ld ns K (2 ^ ns - 1 - 2 ^ s))) w := by
      intro h
      simp only [h] at hp
      refine ⟨fun _ => ?_, fun c => absurd rfl c⟩
      rw [nI_1]
      exact ih (s + 1) l (by omega) hp
    refine ⟨fun c => no ?_, fun c => ?_⟩
    · have c2 : cw_F e ns (2 ^ ns - 1 - 2 ^ s) = 0 := by have := (nI_leI (b := 0) (by omega) (by omega)).mp c; omega
      simp [c2]
    · have c2 : 0 < cw_F e ns (2 ^ ns - 1 - 2 ^ s) := by
        rcases Nat.eq_zero_or_pos (cw_F e ns (2 ^ ns - 1 - 2 ^ s)) with h0 | h0
        · rw [h0] at c; exact absurd (by decide) c
        · exact h0
      refine s_X1_whyNot (bear := 9999) ho hX hl2 (by omega) (by omega) ⟨fun c3 => no (by rw [cw_e_f hE c3, Bool.and_false]), fun c3 => ⟨fun c4 => absurd c4 (by decide), fun _ => ?_⟩⟩
      have h : (decide (0 < cw_F e ns (2 ^ ns - 1 - 2 ^ s)) && e s (2 ^ ns - 1 - 2 ^ s)) = true := by rw [cw_e_t hE c3, Bool.and_true]; exact decide_eq_true c2
      simp only [h, if_true] at hp
      rw [nI_1]
      refine ⟨fun c5 => ?_, fun c5 => ⟨fun c6 => ?_, fun c6 => ?_⟩⟩
      · rw [if_pos c5] at hp; exact ih _ _ (by omega) hp
      · rw [if_neg c5, if_pos c6] at hp; exact ih _ _ (by omega) hp
      · rw [if_neg c5, if_neg c6] at hp; exact ih _ _ (by omega) hp
theorem s_X5_jacks {w en : Nat → Int32} {post : Int32 → (Nat → Int32) → (Nat → Int32) → Prop} (hE : e = cw_e ns K np Pa Pb 9999) (ho : pz_ok ns K np Pa Pb) (hM : pz_M ns K np Pa Pb mst mpr) (hw : ∀ b, b < 2 ^ ns → w b = nI (cw_F e ns b)) : ∀ z s l, s + z = ns → post (cx_jk (fun s => decide (0 < cw_F e ns (2 ^ ns - 1 - 2 ^ s)) && e s (2 ^ ns - 1 - 2 ^ s)) (fun s => pz_ld ns K (2 ^ ns - 1 - 2 ^ s)) z s l) en w → mx_l2 (f_X5_jacks_31 (nI ns) mst (nI np) mpr post (nI (2 ^ ns - 1)) en w) (z + 1) l (nI s) := by
  have hn8 := ho.1
  obtain ⟨-, h256, hN⟩ := pz_all_lt ns (by omega)
  intro z
  induction z with
  | zero =>
    intro s l hz hp
    exact ⟨fun _ => hp, fun c => absurd (nI_le (by omega) (by omega)) c⟩
  | succ z ih =>
    intro s l hz hp
    have hl1 : 2 ^ ns - 1 - 2 ^ s < 2 ^ ns := Nat.lt_of_le_of_lt (Nat.sub_le _ _) (by omega)
    have hl2 : 2 ^ ns - 1 - 2 ^ s < 256 := Nat.lt_of_lt_of_le hl1 h256
    have hF := cw_F_lt (e := e) hn8 hl2
    rw [cx_jk] at hp
    refine ⟨fun c => absurd c (nI_ge (by omega) (by omega)), fun _ => ?_⟩
    rw [cx_all hn8 (by omega)]
    refine s_X5_loadOfAll ho hM hl2 ⟨vp_in_nI hl2 (by omega), ?_⟩
    rw [nI_clamp (Nat.lt_trans hl2 (by omega)), hw _ hl1]
    have no : (decide (0 < cw_F e ns (2 ^ ns - 1 - 2 ^ s)) && e s (2 ^ ns - 1 - 2 ^ s)) = false → f_X5_jacks_83 (nI ns) mst (nI np) mpr (mx_l2 (f_X5_jacks_31 (nI ns) mst (nI np) mpr post (nI (2 ^ ns - 1)) en w) (z + 1)) post (nI (2 ^ ns - 1)) l (nI s) (nI (pz_ld ns K (2 ^ ns - 1 - 2 ^ s))) en w := by
      intro h
      simp only [h] at hp
      refine ⟨fun _ => ?_, fun c => absurd rfl c⟩
      rw [nI_1]
      exact ih (s + 1) l (by omega) hp
    refine ⟨fun c => no ?_, fun c => ?_⟩
    · have c2 : cw_F e ns (2 ^ ns - 1 - 2 ^ s) = 0 := by have := (nI_leI (b := 0) (by omega) (by omega)).mp c; omega
      simp [c2]
    · have c2 : 0 < cw_F e ns (2 ^ ns - 1 - 2 ^ s) := by
        rcases Nat.eq_zero_or_pos (cw_F e ns (2 ^ ns - 1 - 2 ^ s)) with h0 | h0
        · rw [h0] at c; exact absurd (by decide) c
        · exact h0
      refine s_X5_whyBy (bear := 9999) ho hM hl2 (by omega) (by omega) ⟨fun c3 => no (by rw [cw_e_f hE c3, Bool.and_false]), fun c3 => ⟨fun c4 => absurd c4 (by decide), fun _ => ?_⟩⟩
      have h : (decide (0 < cw_F e ns (2 ^ ns - 1 - 2 ^ s)) && e s (2 ^ ns - 1 - 2 ^ s)) = true := by rw [cw_e_t hE c3, Bool.and_true]; exact decide_eq_true c2
      simp only [h, if_true] at hp
      refine ⟨fun c5 => ?_, fun c5 => ⟨fun c6 => ?_, fun c6 => ?_⟩⟩
      · rw [if_pos c5] at hp
        unfold f_X5_jacks_102; rw [nI_1]; exact ih _ _ (by omega) hp
      · rw [if_neg c5, if_pos c6] at hp
        rw [nI_1]; exact ih _ _ (by omega) hp
      · rw [if_neg c5, if_neg c6] at hp
        unfold f_X5_jacks_102; rw [nI_1]; exact ih _ _ (by omega) hp
theorem j_jacks {xw2 en mw : Nat → Int32} {post : Int32 → (Nat → Int32) → Int32 → (Nat → Int32) → (Nat → Int32) → Prop} (hs : cz_S ns K np Pa Pb nb so Wd xs xp xb xs2 xc xk xw xt xh xf xa xv ms mj mo mp mst mpr mwd) (hp : ∀ r a b c, post r a r b c) : f_X4_jacks xs xw xf xk xc xa xt xw2 (fun r a => f_X5_jacks ms mst mp mpr en mw (fun r2 b c => post r a r2 b c)) := by
  obtain ⟨ho, hnb, hso, hWd, ⟨e1, e2, e3, e4⟩, hX, hv, ⟨g1, g2, g3, g4⟩, hM, -⟩ := hs
  have hn8 := ho.1
  rw [e1, g1, g4]
  refine ⟨fun c => s_waysTo (bear := 9999) rfl ho hX (by omega) (fun w' hw' => ⟨ns + 1, s_X4_jacks rfl ho hX hw' ns 0 (-1) (by omega) ?_⟩), fun c => ?_⟩
  · refine ⟨fun _ => ?_, fun c2 => absurd c2 c⟩
    unfold f_X5_jacks_21
    rw [pz_all ns (by omega)]
    exact s_layWays (bear := 9999) rfl ho hM (by omega) (fun en w hen hw => ⟨ns + 1, s_X5_jacks rfl ho hM hw ns 0 (-1) (by omega) (hp _ _ _ _)⟩)
  · refine ⟨fun c2 => absurd c c2, fun _ => ?_⟩
    unfold f_X5_jacks_21
    rw [pz_all ns (by omega)]
    have c0 : ns = 0 := (nI_eq0 (by omega)).mp c
    refine s_layWays (bear := 9999) rfl ho hM (by omega) (fun en w hen hw => ⟨1, fun _ => hp _ _ _ _, fun c2 => absurd (nI_le (b := 0) (by omega) (by omega)) c2⟩)
end CV
