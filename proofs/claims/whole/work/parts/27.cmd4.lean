section CQ
variable {ns np nb so n d : Nat} {K : Nat → Nat → Nat} {Pa Pb Wd O : Nat → Nat} {xs xp xb xs2 xc : Int32} {xk xw xt xh xf xa xv : Nat → Int32} {ms mj mo mp : Int32} {mst mpr mwd : Nat → Int32} {xn xd : Int32} {xo mr : Nat → Int32}
/-! soonest -/
def cz_sn (Wd : Nat → Nat) : Nat → Nat → Nat → Nat
  | 0, day, left => day + left - 1
  | k + 1, day, left => if cz_wind Wd day = 9 then cz_sn Wd k (day + 1) left else if left = 1 then day else cz_sn Wd k (day + 1) (left - 1)
theorem nI_mm (n : Nat) (h : 0 < n) : nI n + (-1) = nI (n - 1) := sb_m1 h
theorem s_X4_soonest {wind : Nat → Int32} {post : Int32 → Prop} (hWd : ∀ d, d < 40 → Wd d ≤ 9) (hw : ∀ d, d < 40 → wind d = nI (Wd d)) : ∀ (k day left : Nat), day + k = 40 → 1 ≤ left → left ≤ 8 → post (nI (cz_sn Wd k day left)) → mx_l2 (f_X4_soonest_18 wind post) (k + 1) (nI left) (nI day) := by
  intro k
  induction k with
  | zero =>
    intro day left hd h1 h8 hp
    refine ⟨fun _ => ?_, fun c => absurd (nI_le (a := 40) (by omega) (by omega)) c⟩
    show post ((40 + nI left) - 1)
    rw [show (40 : Int32) + nI left = nI (40 + left) from nI_add 40 left, show (1 : Int32) = nI 1 from rfl, pk_sub (by omega)]
    rw [cz_sn, show day = 40 by omega] at hp
    exact hp
  | succ k ih =>
    intro day left hd h1 h8 hp
    have h9 : cz_wind Wd day ≤ 9 := by unfold cz_wind; rw [if_pos (by omega)]; exact hWd _ (by omega)
    have e9 : nI (cz_wind Wd day) = 9 ↔ cz_wind Wd day = 9 := nI_eqn 9 (by omega) (by omega)
    refine ⟨fun c => absurd c (nI_ge (b := 40) (by omega) (by omega)), fun _ => s_X1_windOf (by omega) hw ⟨fun c => ?_, fun c => ?_⟩⟩
    · rw [cz_sn, if_pos (e9.mp c)] at hp
      refine ⟨fun _ => ?_, fun c2 => absurd ((nI_eq0 (by omega)).mp c2) (by omega)⟩
      rw [nI_1]
      exact ih (day + 1) left (by omega) h1 h8 hp
    · rw [cz_sn, if_neg (fun z => c (e9.mpr z))] at hp
      rw [nI_mm left (by omega)]
      refine ⟨fun c2 => ?_, fun c2 => ?_⟩
      · have c3 : ¬ left - 1 = 0 := fun z => c2 ((nI_eq0 (by omega)).mpr z)
        rw [if_neg (by omega)] at hp
        rw [nI_1]
        exact ih (day + 1) (left - 1) (by omega) (by omega) (by omega) hp
      · have c3 := (nI_eq0 (by omega)).mp c2
        rw [if_pos (by omega)] at hp
        exact hp
theorem s_X5_soonest_b {wind : Nat → Int32} {post : Int32 → Prop} (hw : ∀ d, d < 40 → wind d = nI (Wd d)) : ∀ (left day : Nat), 40 ≤ day → day + left < 2 ^ 30 → 1 ≤ day → post (nI (day + left - 1)) → mx_l2 (f_X5_soonest_17 wind post) (left + 1) (nI left) (nI day) := by
  intro left
  induction left with
  | zero =>
    intro day hd hb h1 hp
    refine ⟨fun _ => ?_, fun c => absurd (Int32.le_refl 0) c⟩
    show post (nI day - 1)
    rw [show (1 : Int32) = nI 1 from rfl, pk_sub (by omega)]
    exact hp
  | succ left ih =>
    intro day hd hb h1 hp
    refine ⟨fun c => absurd c (nI_nle (by omega) (by omega)), fun _ => s_X5_windOf (by omega) hw ⟨fun _ => ?_, fun c => ?_⟩⟩
    · show mx_l2 _ _ _ _
      rw [nI_1, nI_pred]
      exact ih (day + 1) (by omega) (by omega) (by omega) (by rw [show day + 1 + left - 1 = day + (left + 1) - 1 by omega]; exact hp)
    · rw [cz_wind, if_neg (by omega)] at c
      exact absurd c (by decide)
theorem mx_l2_mono {A B : Type} {f : (A → B → Prop) → A → B → Prop} (hm : ∀ P Q : A → B → Prop, (∀ a b, P a b → Q a b) → ∀ a b, f P a b → f Q a b) : ∀ (n m : Nat) (a : A) (b : B), n ≤ m → mx_l2 f n a b → mx_l2 f m a b
  | 0, _, _, _, _, h => h.elim
  | n + 1, 0, _, _, h, _ => absurd h (by omega)
  | n + 1, m + 1, a, b, h, h2 => hm _ _ (fun a b => mx_l2_mono hm n m a b (by omega)) a b h2
theorem s_X5_soonest {wind : Nat → Int32} {post : Int32 → Prop} (hWd : ∀ d, d < 40 → Wd d ≤ 9) (hw : ∀ d, d < 40 → wind d = nI (Wd d)) : ∀ (k day left : Nat), day + k = 40 → 1 ≤ left → left ≤ 8 → post (nI (cz_sn Wd k day left)) → ∃ N, mx_l2 (f_X5_soonest_17 wind post) N (nI left) (nI day) := by
  intro k
  induction k with
  | zero =>
    intro day left hd h1 h8 hp
    exact ⟨_, s_X5_soonest_b hw left day (by omega) (by omega) (by omega) hp⟩
  | succ k ih =>
    intro day left hd h1 h8 hp
    have h9 : cz_wind Wd day ≤ 9 := by unfold cz_wind; rw [if_pos (by omega)]; exact hWd _ (by omega)
    have e9 : nI (cz_wind Wd day) = 9 ↔ cz_wind Wd day = 9 := nI_eqn 9 (by omega) (by omega)
    by_cases c : cz_wind Wd day = 9
    · rw [cz_sn, if_pos c] at hp
      obtain ⟨N, hN⟩ := ih (day + 1) left (by omega) h1 h8 hp
      refine ⟨N + 1, fun c => absurd c (nI_nle (by omega) (by omega)), fun _ => s_X5_windOf (by omega) hw ⟨fun c2 => absurd (e9.mpr c) c2, fun _ => ?_⟩⟩
      show mx_l2 _ _ _ _
      rw [nI_1, show nI left - 0 = nI left from pk_sub (b := 0) (by omega)]
      exact hN
    · rw [cz_sn, if_neg c] at hp
      by_cases hl : left = 1
      · rw [if_pos hl] at hp
        refine ⟨2, fun c => absurd c (nI_nle (by omega) (by omega)), fun _ => s_X5_windOf (by omega) hw ⟨fun _ => ?_, fun c2 => absurd (e9.mp c2) c⟩⟩
        show mx_l2 _ _ _ _
        rw [hl, nI_1]
        refine ⟨fun _ => ?_, fun c3 => absurd (by decide) c3⟩
        show post (nI (day + 1) - 1)
        rw [nI_pred]
        exact hp
      · rw [if_neg hl] at hp
        obtain ⟨N, hN⟩ := ih (day + 1) (left - 1) (by omega) (by omega) (by omega) hp
        refine ⟨N + 1, fun c => absurd c (nI_nle (by omega) (by omega)), fun _ => s_X5_windOf (by omega) hw ⟨fun _ => ?_, fun c2 => absurd (e9.mp c2) c⟩⟩
        show mx_l2 _ _ _ _
        rw [nI_1, show (1 : Int32) = nI 1 from rfl, pk_sub (by omega)]
        exact hN
theorem j_soonest {x : Int32} {post : Int32 → Int32 → Prop} (hs : cz_S ns K np Pa Pb nb so Wd xs xp xb xs2 xc xk xw xt xh xf xa xv ms mj mo mp mst mpr mwd) (hp : ∀ r, post r r) : f_X4_soonest xv x (fun r => f_X5_soonest mwd x (fun r2 => post r r2)) := by
  have hWd := hs.2.2.2.1
  have hv := hs.2.2.2.2.2.2.1
  have hv2 := hs.2.2.2.2.2.2.2.2.2
  refine ⟨fun c => ?_, fun c => ⟨fun c2 => ?_, fun c2 => ?_⟩⟩
  · exact ⟨fun _ => ⟨fun c3 => absurd rfl c3, fun _ => hp _⟩, fun c3 => absurd c c3⟩
  · have h0 : ¬ x < 0 := fun z => c (Int32.lt_trans z (by decide))
    obtain ⟨j, hj, rfl⟩ := cm_lt (k := 8) h0 (by omega) c2
    have hj1 : 1 ≤ j := by
      rcases Nat.eq_zero_or_pos j with h | h
      · subst h; exact absurd (by decide) c
      · exact h
    refine ⟨41, s_X4_soonest hWd hv 40 0 j (by omega) hj1 hj ?_⟩
    exact ⟨fun c3 => absurd c3 c, fun _ => ⟨fun c3 => absurd c2 (Int32.not_le.mpr c3), fun _ => ⟨fun _ => s_X5_soonest hWd hv2 40 0 j (by omega) hj1 hj (hp _), fun c3 => absurd c3 (by decide)⟩⟩⟩
  · exact ⟨fun c3 => absurd c3 c, fun _ => ⟨fun _ => ⟨fun c3 => absurd rfl c3, fun _ => hp _⟩, fun c3 => absurd (Int32.not_le.mp c2) c3⟩⟩
/-! keep and back -/
theorem cq_cpy {α : Type} {f g : Nat → α} {j : Nat} (h : j < 8) : va_cpy f g (0 : Int32).toNatClampNeg (0 : Int32).toNatClampNeg (8 : Int32).toNatClampNeg j = f j := by
  rw [show (0 : Int32).toNatClampNeg = 0 from rfl, show (8 : Int32).toNatClampNeg = 8 from rfl, pk_cpy_in (by omega) (by omega)]
  congr 1
  omega
/-- a row copied, place by place -/
theorem s_X5_keep {b : Nat} {x1 : Int32} {now kp : Nat → Int32} {post : Int32 → (Nat → Int32) → (Nat → Int32) → Prop} (hb : 10 * x1 = nI b) (hb2 : b ≤ 10) (hx : vp_in x1 2) : ∀ (k i : Nat) (img : Nat → Int32), i + k = 10 → (∀ img', (∀ j, j < 10 → img' (b + j) = if i ≤ j then now j else img (b + j)) → (∀ j, j < b ∨ b + 10 ≤ j → img' j = img j) → post (now 0) (upd kp x1.toNatClampNeg (vp_nar .boolean 1)) img') → mx_l2 (f_X5_keep_14 now post x1 kp) (k + 1) (nI i) img := by
  intro k
  induction k with
  | zero =>
    intro i img hi hp
    refine ⟨fun _ => ⟨hx, vp_in_nI (n := 0) (by omega) (by omega), ?_⟩, fun c => absurd (nI_le (a := 10) (by omega) (by omega)) c⟩
    exact hp img (fun j hj => by rw [if_neg (by omega)]) (fun j _ => rfl)
  | succ k ih =>
    intro i img hi hp
    refine ⟨fun c => absurd c (nI_ge (b := 10) (by omega) (by omega)), fun _ => ⟨vp_in_nI (by omega) (by omega), ?_⟩⟩
    rw [hb, nI_add, nI_clamp (by omega), nI_clamp (by omega), nI_1]
    refine ⟨vp_in_nI (by omega) (by omega), ih (i + 1) _ (by omega) (fun img' h1 h2 => hp img' (fun j hj => ?_) (fun j hj => ?_))⟩
    · rw [h1 j hj]
      by_cases h : i = j
      · subst h
        rw [if_neg (by omega), if_pos (by omega), pk_us]
      · by_cases h3 : i + 1 ≤ j
        · rw [if_pos h3, if_pos (by omega)]
        · rw [if_neg h3, if_neg (by omega), pk_un (by omega)]
    · rw [h2 j hj, pk_un (by omega)]
theorem s_X5_back {b : Nat} {x1 sg : Int32} {img kp : Nat → Int32} {post : Int32 → Int32 → (Nat → Int32) → Prop} (hb : 10 * x1 = nI b) (hb2 : b ≤ 10) : ∀ (k i : Nat) (now : Nat → Int32), i + k = 10 → (∀ now', (∀ j, j < 10 → now' j = if i ≤ j then img (b + j) else now j) → post (now' 0) 0 now') → mx_l2 (f_X5_back_26 kp img post x1 sg) (k + 1) (nI i) now := by
  intro k
  induction k with
  | zero =>
    intro i now hi hp
    refine ⟨fun _ => ⟨vp_in_nI (n := 0) (by omega) (by omega), ?_⟩, fun c => absurd (nI_le (a := 10) (by omega) (by omega)) c⟩
    exact hp now (fun j hj => by rw [if_neg (by omega)])
  | succ k ih =>
    intro i now hi hp
    refine ⟨fun c => absurd c (nI_ge (b := 10) (by omega) (by omega)), fun _ => ?_⟩
    rw [hb, nI_add, nI_clamp (by omega), nI_clamp (by omega), nI_1]
    refine ⟨vp_in_nI (by omega) (by omega), vp_in_nI (by omega) (by omega), ih (i + 1) _ (by omega) (fun now' h1 => hp now' (fun j hj => ?_))⟩
    rw [h1 j hj]
    by_cases h : i = j
    · subst h
      rw [if_neg (by omega), if_pos (by omega), pk_us]
    · by_cases h3 : i + 1 ≤ j
      · rw [if_pos h3, if_pos (by omega)]
      · rw [if_neg h3, if_neg (by omega), pk_un (by omega)]
/-- a tower carried over to another row -/
theorem cz_W.to {xo2 mr2 : Nat → Int32} {b b2 : Nat} (hn8 : ns ≤ 8) (hw : cz_W ns n d O xn xd xo mr b) (h1 : ∀ j, j < 8 → xo2 j = xo j) (h2 : ∀ j, j < 10 → mr2 (b2 + j) = mr (b + j)) : cz_W ns n d O xn xd xo2 mr2 b2 := by
  obtain ⟨a1, a2, a3, a4, a5, a6, a7, a8⟩ := hw
  refine ⟨a1, a2, a3, a4, (h2 0 (by omega)).trans a5, (h2 1 (by omega)).trans a6, fun i hi => ?_, a8⟩
  obtain ⟨g1, g2, g3⟩ := a7 i hi
  refine ⟨g1, (h1 i (by omega)).trans g2, ?_⟩
  have h3 := h2 (2 + i) (by omega)
  rw [show b2 + (2 + i) = b2 + 2 + i by omega, show b + (2 + i) = b + 2 + i by omega] at h3
  exact h3.trans g3
theorem cz_K1.keep {ns : Nat} {a c x y : Int32} {o : Nat → Int32} {mi mi2 : Nat → Int32} {b : Nat} (hn8 : ns ≤ 8) (h : cz_K1 ns a c x y o mi b) (h2 : ∀ j, j < 10 → mi2 (b + j) = mi (b + j)) : cz_K1 ns a c x y o mi2 b := by
  rcases h with h | ⟨h3, h4, n, d, O, h5⟩
  · exact Or.inl h
  · exact Or.inr ⟨h3, h4, n, d, O, h5.to hn8 (fun _ _ => rfl) h2⟩
theorem cq_1 : vp_nar .boolean 1 = 1 := rfl
theorem j_keep {x : Int32} {xkp mkp : Nat → Int32} {an ad bn bd : Int32} {ao bo mi : Nat → Int32} {post : Int32 → Int32 → Int32 → (Nat → Int32) → (Nat → Int32) → Int32 → Int32 → (Nat → Int32) → Int32 → (Nat → Int32) → (Nat → Int32) → Prop} (hn8 : ns ≤ 8) (hw : cz_W ns n d O xn xd xo mr 0) (hk : cz_K ns xkp mkp an ad ao bn bd bo mi)
    (hp : ∀ r an' ad' ao' xkp' bn' bd' bo' mkp' mi', cz_K ns xkp' mkp' an' ad' ao' bn' bd' bo' mi' → post r an' ad' ao' xkp' bn' bd' bo' r mkp' mi') : f_X4_keep xn xd xo an ad ao xkp bn bd bo x (fun r a1 a2 a3 a4 a5 a6 a7 => f_X5_keep mr mkp mi x (fun r2 k2 i2 => post r a1 a2 a3 a4 a5 a6 a7 r2 k2 i2)) := by
  have w0 : mr 0 = nI n := hw.2.2.2.2.1
  by_cases h0 : x = 0
  · subst h0
    have v : vp_in (0 : Int32) 2 := vp_in_nI (n := 0) (by omega) (by omega)
    refine ⟨fun c => absurd c (by decide), fun _ => ⟨fun c => absurd c (by decide), fun _ => ⟨v, fun _ => ?_, fun c => absurd c (by decide)⟩⟩⟩
    refine ⟨fun _ => ⟨v, fun _ => ⟨v, ?_⟩, fun c => absurd c (by decide)⟩, fun c => absurd c (by decide)⟩
    refine ⟨fun c => absurd c (by decide), fun _ => ⟨fun c => absurd c (by decide), fun _ => ⟨fun _ => ⟨11, s_X5_keep (b := 0) rfl (by omega) v 10 0 mi (by omega) (fun img' h1 h2 => ?_)⟩, fun c => absurd c (by decide)⟩⟩⟩
    rw [w0, hw.2.2.1]
    refine hp _ _ _ _ _ _ _ _ _ _ ⟨Or.inr ⟨by rw [ix_0, pk_us]; rfl, by rw [ix_0, pk_us]; rfl, n, d, O, ?_⟩, ?_⟩
    · rw [← hw.2.2.1]
      exact hw.to hn8 (fun j hj => cq_cpy hj) (fun j hj => by rw [h1 j hj, if_pos (by omega)]; rw [Nat.zero_add])
    · rw [ix_0, pk_un (by omega), pk_un (by omega)]
      exact hk.2.keep hn8 (fun j hj => h2 _ (by omega))
  · by_cases h1 : x = 1
    · subst h1
      have v : vp_in (1 : Int32) 2 := vp_in_nI (n := 1) (by omega) (by omega)
      refine ⟨fun c => absurd c (by decide), fun _ => ⟨fun c => absurd c (by decide), fun _ => ⟨v, fun c => absurd c (by decide), fun _ => ?_⟩⟩⟩
      refine ⟨fun _ => ⟨v, fun c => absurd c (by decide), fun _ => ⟨v, ?_⟩⟩, fun c => absurd c (by decide)⟩
      refine ⟨fun c => absurd c (by decide), fun _ => ⟨fun c => absurd c (by decide), fun _ => ⟨fun _ => ⟨11, s_X5_keep (b := 10) rfl (by omega) v 10 0 mi (by omega) (fun img' h1 h2 => ?_)⟩, fun c => absurd c (by decide)⟩⟩⟩
      rw [w0, hw.2.2.1]
      refine hp _ _ _ _ _ _ _ _ _ _ ⟨?_, Or.inr ⟨by rw [ix_1, pk_us]; rfl, by rw [ix_1, pk_us]; rfl, n, d, O, ?_⟩⟩
      · rw [ix_1, pk_un (by omega), pk_un (by omega)]
        exact hk.1.keep hn8 (fun j hj => h2 _ (by omega))
      · rw [← hw.2.2.1]
        exact hw.to hn8 (fun j hj => cq_cpy hj) (fun j hj => by rw [h1 j hj, if_pos (by omega)]; rw [Nat.zero_add])
    · have no : x < 0 ∨ 2 ≤ x := by
        by_cases hn : x < 0
        · exact Or.inl hn
        · obtain ⟨j, hj, rfl⟩ := nI_of hn
          refine Or.inr ?_
          rcases (show j = 0 ∨ j = 1 ∨ 2 ≤ j by omega) with h | h | h
          · subst h; exact absurd rfl h0
          · subst h; exact absurd rfl h1
          · exact nI_le (a := 2) h hj
      have fin : f_X5_keep mr mkp mi x (fun r2 k2 i2 => post (-2) an ad ao xkp bn bd bo r2 k2 i2) := by
        refine ⟨fun _ => ⟨fun c => absurd rfl c, fun _ => hp _ _ _ _ _ _ _ _ _ _ hk⟩, fun c => ⟨fun _ => ⟨fun c => absurd rfl c, fun _ => hp _ _ _ _ _ _ _ _ _ _ hk⟩, fun c2 => ?_⟩⟩
        rcases no with h | h
        · exact absurd h c
        · exact absurd (Int32.lt_of_lt_of_le (by decide) h) c2
      refine ⟨fun _ => ⟨fun c => absurd rfl c, fun _ => fin⟩, fun c => ⟨fun _ => ⟨fun c => absurd rfl c, fun _ => fin⟩, fun c2 => ?_⟩⟩
      rcases no with h | h
      · exact absurd h c
      · exact absurd h c2
theorem j_back {x : Int32} {xkp mkp : Nat → Int32} {an ad bn bd sm mg : Int32} {ao bo mi : Nat → Int32} {post : Int32 → Int32 → Int32 → (Nat → Int32) → Int32 → Int32 → Int32 → (Nat → Int32) → Prop} (hn8 : ns ≤ 8) (hw : cz_W ns n d O xn xd xo mr 0) (hk : cz_K ns xkp mkp an ad ao bn bd bo mi)
    (hsame : ∀ r, post r xn xd xo sm r mg mr) (hp : ∀ r xn' xd' xo' mr' n' d' O', cz_W ns n' d' O' xn' xd' xo' mr' 0 → post r xn' xd' xo' 0 r 0 mr') : f_X4_back xkp an ad ao bn bd bo xn xd xo sm x (fun r a1 a2 a3 a4 => f_X5_back mkp mi mg mr x (fun r2 k2 i2 => post r a1 a2 a3 a4 r2 k2 i2)) := by
  by_cases h0 : x = 0
  · subst h0
    have v : vp_in (0 : Int32) 2 := vp_in_nI (n := 0) (by omega) (by omega)
    refine ⟨fun c => absurd c (by decide), fun _ => ⟨fun c => absurd c (by decide), fun _ => ⟨v, fun _ => ?_, fun c => absurd c (by decide)⟩⟩⟩
    refine ⟨fun _ => ⟨v, fun c => ⟨v, fun _ => ?_, fun c => absurd c (by decide)⟩, fun c => ?_⟩, fun c => absurd c (by decide)⟩
    · rcases hk.1 with ⟨k1, k2⟩ | ⟨k1, k2, n2, d2, O2, hw2⟩
      · exact absurd k1 c
      refine ⟨fun c => absurd c (by decide), fun _ => ⟨fun c => absurd c (by decide), fun _ => ⟨fun _ => ⟨v, fun _ => ⟨11, s_X5_back (b := 0) rfl (by omega) 10 0 mr (by omega) (fun now' h1 => ?_)⟩, fun c2 => absurd (c2.symm.trans k2) (by decide)⟩, fun c => absurd c (by decide)⟩⟩⟩
      have e0 : now' 0 = an := by rw [h1 0 (by omega), if_pos (by omega)]; exact hw2.2.2.2.2.1.trans hw2.2.2.1.symm
      rw [e0]
      exact hp _ _ _ _ _ _ _ _ (hw2.to hn8 (fun j hj => cq_cpy hj) (fun j hj => by rw [Nat.zero_add, h1 j hj, if_pos (by omega), Nat.zero_add]))
    · rcases hk.1 with ⟨k1, k2⟩ | ⟨k1, -⟩
      · exact ⟨fun c => absurd c (by decide), fun _ => ⟨fun c => absurd c (by decide), fun _ => ⟨fun _ => ⟨v, fun c2 => absurd k2 c2, fun _ => hsame _⟩, fun c => absurd c (by decide)⟩⟩⟩
      · exact absurd (k1.symm.trans c) (by decide)
  · by_cases h1 : x = 1
    · subst h1
      have v : vp_in (1 : Int32) 2 := vp_in_nI (n := 1) (by omega) (by omega)
      refine ⟨fun c => absurd c (by decide), fun _ => ⟨fun c => absurd c (by decide), fun _ => ⟨v, fun c => absurd c (by decide), fun _ => ?_⟩⟩⟩
      refine ⟨fun _ => ⟨v, fun c => ⟨v, fun c => absurd c (by decide), fun _ => ?_⟩, fun c => ?_⟩, fun c => absurd c (by decide)⟩
      · rcases hk.2 with ⟨k1, k2⟩ | ⟨k1, k2, n2, d2, O2, hw2⟩
        · exact absurd k1 c
        refine ⟨fun c => absurd c (by decide), fun _ => ⟨fun c => absurd c (by decide), fun _ => ⟨fun _ => ⟨v, fun _ => ⟨11, s_X5_back (b := 10) rfl (by omega) 10 0 mr (by omega) (fun now' h1 => ?_)⟩, fun c2 => absurd (c2.symm.trans k2) (by decide)⟩, fun c => absurd c (by decide)⟩⟩⟩
        have e0 : now' 0 = bn := by rw [h1 0 (by omega), if_pos (by omega)]; exact hw2.2.2.2.2.1.trans hw2.2.2.1.symm
        rw [e0]
        exact hp _ _ _ _ _ _ _ _ (hw2.to hn8 (fun j hj => cq_cpy hj) (fun j hj => by rw [Nat.zero_add, h1 j hj, if_pos (by omega)]))
      · rcases hk.2 with ⟨k1, k2⟩ | ⟨k1, -⟩
        · exact ⟨fun c => absurd c (by decide), fun _ => ⟨fun c => absurd c (by decide), fun _ => ⟨fun _ => ⟨v, fun c2 => absurd k2 c2, fun _ => hsame _⟩, fun c => absurd c (by decide)⟩⟩⟩
        · exact absurd (k1.symm.trans c) (by decide)
    · have no : x < 0 ∨ 2 ≤ x := by
        by_cases hn : x < 0
        · exact Or.inl hn
        · obtain ⟨j, hj, rfl⟩ := nI_of hn
          refine Or.inr ?_
          rcases (show j = 0 ∨ j = 1 ∨ 2 ≤ j by omega) with h | h | h
          · subst h; exact absurd rfl h0
          · subst h; exact absurd rfl h1
          · exact nI_le (a := 2) h hj
      have fin : f_X5_back mkp mi mg mr x (fun r2 k2 i2 => post (-2) xn xd xo sm r2 k2 i2) := by
        refine ⟨fun _ => ⟨fun c => absurd rfl c, fun _ => hsame _⟩, fun c => ⟨fun _ => ⟨fun c => absurd rfl c, fun _ => hsame _⟩, fun c2 => ?_⟩⟩
        rcases no with h | h
        · exact absurd h c
        · exact absurd (Int32.lt_of_lt_of_le (by decide) h) c2
      refine ⟨fun _ => ⟨fun c => absurd rfl c, fun _ => fin⟩, fun c => ⟨fun _ => ⟨fun c => absurd rfl c, fun _ => fin⟩, fun c2 => ?_⟩⟩
      rcases no with h | h
      · exact absurd h c
      · exact absurd h c2
end CQ
