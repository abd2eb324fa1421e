theorem fb_holes : ∀ (m n : Nat) (f : Nat → Nat), (∀ i, i < n → f i < m) → (∀ i j, i < j → j < n → f i ≠ f j) → n ≤ m := by
  intro m
  induction m with
  | zero =>
    intro n f h1 _
    rcases Nat.eq_zero_or_pos n with h | h
    · omega
    · exact absurd (h1 0 h) (Nat.not_lt_zero _)
  | succ m ih =>
    intro n f h1 h2
    by_cases hx : ∃ i, i < n ∧ f i = m
    · obtain ⟨a, ha, hfa⟩ := hx
      have hg := ih (n - 1) (fun i => if i < a then f i else f (i + 1)) (by
        intro i hi
        by_cases q : i < a
        · simp only [if_pos q]
          have b1 := h1 i (by omega)
          have b2 := h2 i a q ha
          omega
        · simp only [if_neg q]
          have b1 := h1 (i + 1) (by omega)
          have b2 := h2 a (i + 1) (by omega) (by omega)
          omega) (by
        intro i j hij hj
        by_cases q : i < a
        · by_cases r : j < a
          · simp only [if_pos q, if_pos r]
            exact h2 i j hij (by omega)
          · simp only [if_pos q, if_neg r]
            exact h2 i (j + 1) (by omega) (by omega)
        · have r : ¬ j < a := by omega
          simp only [if_neg q, if_neg r]
          exact h2 (i + 1) (j + 1) (by omega) (by omega))
      omega
    · have hg := ih n f (fun i hi => by
        have b1 := h1 i hi
        have b2 : f i ≠ m := fun e => hx ⟨i, hi, e⟩
        omega) h2
      omega
section CN
variable {ns np nb so n d : Nat} {K : Nat → Nat → Nat} {Pa Pb Wd O : Nat → Nat} {xs xp xb xs2 xc : Int32} {xk xw xt xh xf xa xv : Nat → Int32} {ms mj mo mp : Int32} {mst mpr mwd : Nat → Int32} {xn xd : Int32} {xo mr : Nat → Int32}
theorem pz_why_bit {s set bear : Nat} (h : pz_why ns K np Pa Pb s set bear = 0) : set.testBit s = false := by
  cases hb : set.testBit s with
  | false => rfl
  | true => rw [pz_why, hb, if_pos rfl] at h; cases h
theorem cz_why0 {day s set : Nat} (h : cz_why ns K np Pa Pb nb Wd day s set = 0) : pz_why ns K np Pa Pb s set nb = 0 := by
  unfold cz_why at h
  split at h
  · cases h
  · exact h
/-- a tower with one storey more -/
theorem cz_W.push {j : Nat} (hw : cz_W ns n d O xn xd xo mr 0) (hn : ns ≤ 8) (hj : j < ns) (hb : (cz_up O n).testBit j = false) (hd : d < 9999) : cz_W ns (n + 1) (d + 1) (fun i => if i = n then j else O i) (nI (n + 1)) (nI (d + 1)) (upd xo n (nI j)) (upd (upd (upd mr (2 + n) (nI j)) 0 (nI (n + 1))) 1 (nI (d + 1))) 0 := by
  obtain ⟨h1, h2, h3, h4, h5, h6, h7, h8⟩ := hw
  have hne : ∀ k, k < n → O k ≠ j := by
    intro k hk e
    have := (cz_up_bit (O := O) (n := n) j).mpr ⟨k, hk, e⟩
    rw [hb] at this; cases this
  have hlt : n + 1 ≤ ns := by
    refine fb_holes ns (n + 1) (fun i => if i = n then j else O i) (fun i hi => ?_) (fun a b hab hb2 => ?_)
    · by_cases h : i = n
      · simp [h, hj]
      · simp only [h, if_false]; exact (h7 i (by omega)).1
    · by_cases h : b = n
      · subst h
        simp only [if_true, show ¬ a = b by omega, if_false]
        exact hne a (by omega)
      · simp only [h, show ¬ a = n by omega, if_false]
        intro e
        have := h8 a b (by omega) (by omega) e
        omega
  refine ⟨hlt, by omega, rfl, rfl, ?_, ?_, fun i hi => ?_, fun a b ha hb2 e => ?_⟩
  · rw [pk_un (by omega), pk_us]
  · exact pk_us
  · by_cases h : i = n
    · subst h
      simp only [if_true]
      refine ⟨hj, pk_us, ?_⟩
      rw [pk_un (by omega), pk_un (by omega), show 0 + 2 + i = 2 + i by omega, pk_us]
    · simp only [h, if_false]
      obtain ⟨g1, g2, g3⟩ := h7 i (by omega)
      refine ⟨g1, by rw [pk_un h]; exact g2, ?_⟩
      rw [pk_un (by omega), pk_un (by omega), pk_un (by omega)]
      exact g3
  · by_cases h : a = n <;> by_cases h' : b = n
    · omega
    · simp only [h, h', if_true, if_false] at e
      exact absurd e.symm (hne b (by omega))
    · simp only [h, h', if_true, if_false] at e
      exact absurd e (hne a (by omega))
    · simp only [h, h', if_false] at e
      exact h8 a b (by omega) (by omega) e
theorem j_lift {x : Int32} {post : Int32 → (Nat → Int32) → Int32 → Int32 → Int32 → (Nat → Int32) → Prop} (hs : cz_S ns K np Pa Pb nb so Wd xs xp xb xs2 xc xk xw xt xh xf xa xv ms mj mo mp mst mpr mwd) (hw : cz_W ns n d O xn xd xo mr 0)
    (hp : ∀ r xo' xn' xd' mr' n' d' O', cz_W ns n' d' O' xn' xd' xo' mr' 0 → n ≤ n' → post r xo' xn' xd' r mr') : f_X4_lift xs xw xf xb xk xc xa xt xv xo xn xd x (fun r a b c => f_X5_lift ms mj mst mp mpr mwd mr x (fun r2 m2 => post r a b c r2 m2)) := by
  have hn8 := hs.1.1
  obtain ⟨e1, -⟩ := hs.2.2.2.2.1
  obtain ⟨g1, -⟩ := hs.2.2.2.2.2.2.2.1
  have same : ∀ r, post r xo xn xd r mr := fun r => hp r xo xn xd mr n d O hw (Nat.le_refl n)
  have hn := hw.1
  have hd := hw.2.1
  have w0 : mr 0 = nI n := hw.2.2.2.2.1
  have w1 : mr 1 = nI d := hw.2.2.2.2.2.1
  have v0 : vp_in 0 10 := vp_in_nI (n := 0) (by omega) (by omega)
  have v1 : vp_in 1 10 := vp_in_nI (n := 1) (by omega) (by omega)
  unfold f_X4_lift f_X5_lift
  rcases cz_ix x hn8 with ⟨j, hj, rfl⟩ | hx
  · rw [e1]
    refine s_has_t hn8 hj ⟨fun _ => ?_, fun c => absurd c (by decide)⟩
    rw [← e1]
    have hwl := cz_why_lt (ns := ns) (np := np) (nb := nb) (K := K) (Pa := Pa) (Pb := Pb) (Wd := Wd) d j (cz_up O n)
    have e9 : nI (cz_why ns K np Pa Pb nb Wd d j (cz_up O n)) = 0 ↔ cz_why ns K np Pa Pb nb Wd d j (cz_up O n) = 0 := nI_eq0 (by omega)
    refine s_whyToday hs hw hj ⟨fun c => ⟨fun c2 => ?_, fun c2 => ?_⟩, fun c => ?_⟩
    · rw [hw.2.2.2.1] at c2
      have hdl : d < 9999 := (nI_ltI (b := 9999) (by omega) (by omega)).mp c2
      have hb := pz_why_bit (cz_why0 (e9.mp c))
      have hpush := hw.push hn8 hj hb hdl
      have hn1 := hpush.1
      rw [hw.2.2.1]
      refine ⟨fun c3 => absurd c3 (nI_ge (b := 8) (by omega) (by omega)), fun _ => ⟨vp_in_nI (by omega) (by omega), ?_⟩⟩
      rw [nI_clamp (by omega), nI_1, hw.2.2.2.1, nI_1, g1]
      refine s_st_t hn8 hj ⟨fun _ => ?_, fun c => absurd c (by decide)⟩
      rw [← g1]
      refine s_whyNow hs hw hj ⟨fun _ => ⟨v1, fun _ => ⟨v0, ?_⟩, fun c3 => ?_⟩, fun c3 => absurd c c3⟩
      · rw [ix_0, ix_1, w0, ix_2p, nI_clamp (by omega)]
        refine ⟨vp_in_nI (by omega) (by omega), v0, fun z3 ez3 => ⟨v0, v1, fun z4 ez4 => ⟨v1, v0, ?_⟩⟩⟩
        rw [pk_un (by omega), w0, nI_1] at ez3
        rw [pk_un (by omega), pk_un (by omega), w1, nI_1] at ez4
        subst ez3 ez4
        rw [pk_un (by omega), pk_us]
        exact hp _ _ _ _ _ _ _ _ hpush (by omega)
      · rw [ix_1, w1] at c3
        have := (nI_eqn 9999 (by omega) (by omega)).mp c3
        omega
    · rw [hw.2.2.2.1] at c2
      have hdl : ¬ d < 9999 := fun z => c2 ((nI_ltI (b := 9999) (by omega) (by omega)).mpr z)
      rw [g1]
      refine s_st_t hn8 hj ⟨fun _ => ?_, fun c => absurd c (by decide)⟩
      rw [← g1]
      refine s_whyNow hs hw hj ⟨fun _ => ⟨v1, fun c3 => ?_, fun _ => same _⟩, fun c3 => absurd c c3⟩
      rw [ix_1, w1] at c3
      exact absurd (by rw [show d = 9999 by omega]; rfl) c3
    · rw [g1]
      refine s_st_t hn8 hj ⟨fun _ => ?_, fun c => absurd c (by decide)⟩
      rw [← g1]
      exact s_whyNow hs hw hj ⟨fun c3 => absurd c3 c, fun _ => same _⟩
  · rw [e1]
    refine s_has_f hn8 hx ⟨fun c => absurd rfl c, fun _ => ?_⟩
    rw [g1]
    exact s_st_f hn8 hx ⟨fun c => absurd rfl c, fun _ => same _⟩
theorem j_rest {x : Int32} {post : Int32 → Int32 → Int32 → (Nat → Int32) → Prop} (hw : cz_W ns n d O xn xd xo mr 0) (hn8 : ns ≤ 8)
    (hp : ∀ r xd' mr' d', cz_W ns n d' O xn xd' xo mr' 0 → post r xd' r mr') : f_X4_rest xd x (fun r a => f_X5_rest mr x (fun r2 m2 => post r a r2 m2)) := by
  have same : ∀ r, post r xd r mr := fun r => hp r xd mr d hw
  have hn := hw.1
  have hd := hw.2.1
  have w1 : mr 1 = nI d := hw.2.2.2.2.2.1
  have v1 : vp_in 1 10 := vp_in_nI (n := 1) (by omega) (by omega)
  unfold f_X4_rest f_X5_rest
  refine ⟨fun c => ?_, fun c => ⟨fun c2 => ?_, fun c2 => ?_⟩⟩
  · exact ⟨fun _ => ⟨fun c3 => absurd rfl c3, fun _ => same _⟩, fun c3 => absurd c c3⟩
  · have h0 : ¬ x < 0 := fun z => c (Int32.lt_trans z (by decide))
    obtain ⟨j, hj, rfl⟩ := cm_lt (k := 99) h0 (by omega) c2
    have hj1 : 1 ≤ j := by
      rcases Nat.eq_zero_or_pos j with h | h
      · subst h; exact absurd (by decide) c
      · exact h
    rw [hw.2.2.2.1, nI_add, ix_1, w1, nI_add]
    have e9 : nI (d + j) ≤ 9999 ↔ d + j ≤ 9999 := nI_leI (b := 9999) (by omega) (by omega)
    refine ⟨fun c3 => ?_, fun c3 => ?_⟩
    · refine ⟨fun c4 => absurd c4 c, fun _ => ⟨fun c4 => absurd c2 (Int32.not_le.mpr c4), fun _ => ⟨fun _ => ⟨v1, fun _ => ⟨v1, v1, v1, ?_⟩, fun c4 => absurd c3 c4⟩, fun c4 => absurd c4 (by decide)⟩⟩⟩
      rw [pk_us]
      refine hp _ _ _ (d + j) ?_
      obtain ⟨h1, h2, h3, h4, h5, h6, h7, h8⟩ := hw
      refine ⟨h1, e9.mp c3, h3, rfl, by rw [pk_un (by omega)]; exact h5, pk_us, fun i hi => ?_, h8⟩
      obtain ⟨g1, g2, g3⟩ := h7 i hi
      exact ⟨g1, g2, by rw [pk_un (by omega)]; exact g3⟩
    · rw [← hw.2.2.2.1]
      exact ⟨fun c4 => absurd c4 c, fun _ => ⟨fun c4 => absurd c2 (Int32.not_le.mpr c4), fun _ => ⟨fun _ => ⟨v1, fun c4 => absurd c4 c3, fun _ => same _⟩, fun c4 => absurd c4 (by decide)⟩⟩⟩
  · exact ⟨fun c3 => absurd c3 c, fun _ => ⟨fun _ => ⟨fun c4 => absurd rfl c4, fun _ => same _⟩, fun c3 => absurd (Int32.not_le.mp c2) c3⟩⟩
theorem j_up {x : Int32} {post : Int32 → Int32 → Prop} (hw : cz_W ns n d O xn xd xo mr 0) (hn8 : ns ≤ 8) (hp : ∀ r, post r r) : f_X4_up xn xo x (fun r => f_X5_up mr x (fun r2 => post r r2)) := by
  have hn := hw.1
  have w0 : mr 0 = nI n := hw.2.2.2.2.1
  have v0 : vp_in 0 10 := vp_in_nI (n := 0) (by omega) (by omega)
  unfold f_X4_up f_X5_up
  rw [hw.2.2.1, ix_0, w0]
  refine ⟨fun c => ⟨fun c2 => ?_, fun c2 => ?_⟩, fun c => ?_⟩
  · exact ⟨fun _ => ⟨v0, fun _ => hp _, fun c3 => absurd c2 c3⟩, fun c3 => absurd c c3⟩
  · obtain ⟨j, h1, rfl⟩ := nI_of (Int32.not_lt.mpr c)
    have hj : j < n := by
      rcases Nat.lt_or_ge j n with h | h
      · exact h
      · exact absurd (nI_le h h1) c2
    obtain ⟨q1, q2, q3⟩ := hw.2.2.2.2.2.2.1 j hj
    rw [nI_clamp h1, q2, ix_2p, nI_clamp (by omega), show mr (2 + j) = nI (O j) by rw [show 0 + 2 + j = 2 + j by omega] at q3; exact q3]
    exact ⟨vp_in_nI (by omega) (by omega), fun _ => ⟨v0, fun c3 => absurd c3 c2, fun _ => ⟨vp_in_nI (by omega) (by omega), hp _⟩⟩, fun c3 => absurd c c3⟩
  · exact ⟨fun c3 => absurd c3 c, fun _ => hp _⟩
theorem j_row {x : Int32} {xm mm : Int32} {xl mrow : Nat → Int32} {post : Int32 → (Nat → Int32) → Int32 → Int32 → (Nat → Int32) → Int32 → Prop} (hs : cz_S ns K np Pa Pb nb so Wd xs xp xb xs2 xc xk xw xt xh xf xa xv ms mj mo mp mst mpr mwd) (hr : cz_R ns xm xl mm mrow)
    (hp : ∀ r xl' xm' mrow' mm', cz_R ns xm' xl' mm' mrow' → post r xl' xm' r mrow' mm') : f_X4_row xs xl xm x (fun r a b => f_X5_row ms mrow mm x (fun r2 c2 d2 => post r a b r2 c2 d2)) := by
  have hn8 := hs.1.1
  obtain ⟨e1, -⟩ := hs.2.2.2.2.1
  obtain ⟨g1, -⟩ := hs.2.2.2.2.2.2.2.1
  have same : ∀ r, post r xl xm r mrow mm := fun r => hp r xl xm mrow mm hr
  obtain ⟨lm, hl, rfl, rfl, hrow⟩ := hr
  unfold f_X4_row f_X5_row
  rw [e1, g1]
  have e8 : nI lm < 8 ↔ lm < 8 := nI_ltI (b := 8) (by omega) (by omega)
  have e9 : nI lm = 8 ↔ lm = 8 := nI_eqn 8 (by omega) (by omega)
  rcases cz_ix x hn8 with ⟨j, hj, rfl⟩ | hx
  · refine s_has_t hn8 hj ⟨fun _ => ⟨fun c => ?_, fun c => ?_⟩, fun c => absurd c (by decide)⟩
    · have hl8 := e8.mp c
      refine ⟨vp_in_nI hl8 (by omega), s_st_t hn8 hj ⟨fun _ => ⟨fun _ => ⟨vp_in_nI hl8 (by omega), ?_⟩, fun c2 => absurd (e9.mp c2) (by omega)⟩, fun c => absurd c (by decide)⟩⟩
      rw [nI_1, nI_clamp (by omega)]
      refine hp _ _ _ _ _ ⟨lm + 1, by omega, rfl, rfl, fun i hi => ?_⟩
      by_cases h : i = lm
      · subst h
        exact ⟨j, hj, pk_us, pk_us⟩
      · obtain ⟨s, q1, q2, q3⟩ := hrow i (by omega)
        exact ⟨s, q1, by rw [pk_un h]; exact q2, by rw [pk_un h]; exact q3⟩
    · have hl8 : ¬ lm < 8 := fun z => c (e8.mpr z)
      exact s_st_t hn8 hj ⟨fun _ => ⟨fun c2 => absurd (e9.mpr (by omega)) c2, fun _ => same _⟩, fun c => absurd c (by decide)⟩
  · exact s_has_f hn8 hx ⟨fun c => absurd rfl c, fun _ => s_st_f hn8 hx ⟨fun c => absurd rfl c, fun _ => same _⟩⟩
theorem j_seen {x y : Int32} {xm mm : Int32} {xat xin msg : Nat → Int32} {post : Int32 → (Nat → Int32) → (Nat → Int32) → Int32 → Int32 → (Nat → Int32) → Int32 → Prop} (hw : cz_W ns n d O xn xd xo mr 0) (hn8 : ns ≤ 8) (hr : cz_N n xm xat xin mm msg)
    (hp : ∀ r xat' xin' xm' msg' mm', cz_N n xm' xat' xin' mm' msg' → post r xat' xin' xm' r msg' mm') : f_X4_seen xn xat xin xm x y (fun r a b c => f_X5_seen mr msg mm x y (fun r2 c2 d2 => post r a b c r2 c2 d2)) := by
  have same : ∀ r, post r xat xin xm r msg mm := fun r => hp r xat xin xm msg mm hr
  have hn := hw.1
  have w0 : mr 0 = nI n := hw.2.2.2.2.1
  have v0 : vp_in 0 10 := vp_in_nI (n := 0) (by omega) (by omega)
  obtain ⟨sm, hl, rfl, rfl, hrow⟩ := hr
  have e8 : nI sm < 8 ↔ sm < 8 := nI_ltI (b := 8) (by omega) (by omega)
  have e9 : nI sm = 8 ↔ sm = 8 := nI_eqn 8 (by omega) (by omega)
  unfold f_X4_seen f_X5_seen
  rw [hw.2.2.1, ix_0, w0]
  have m1 : ∀ z : Int32, (nI n - 1 < z) ↔ (n : Int) ≤ z.toInt := by
    intro z; rw [Int32.lt_iff_toInt_lt, nI_m1 (by omega)]; omega
  have m2 : ∀ z : Int32, (nI n ≤ z) ↔ (n : Int) ≤ z.toInt := by
    intro z; rw [Int32.le_iff_toInt_le, nI_toInt (by omega)]
  refine ⟨fun c => ⟨v0, fun _ => ⟨fun _ => same _, fun c2 => absurd rfl c2⟩, fun c2 => absurd c c2⟩, fun c => ⟨fun c2 => ⟨v0, fun c3 => absurd c3 c, fun _ => ⟨fun _ => ⟨fun _ => same _, fun c4 => absurd rfl c4⟩, fun c3 => absurd ((m1 x).mpr ((m2 x).mp c2)) c3⟩⟩, fun c2 => ?_⟩⟩
  have in1 : ∀ {P : Int32 → Prop}, P 1 → f_X5_in1 x 0 (nI n - 1) P := fun h => ⟨fun c3 => absurd c3 c, fun _ => ⟨fun c3 => absurd ((m2 x).mpr ((m1 x).mp c3)) c2, fun _ => h⟩⟩
  refine ⟨fun c3 => ⟨v0, in1 ⟨fun c4 => absurd c4 (by decide), fun _ => ⟨fun _ => ⟨fun c5 => absurd rfl c5, fun _ => same _⟩, fun c4 => absurd c3 c4⟩⟩⟩, fun c3 => ⟨fun c4 => ⟨fun c5 => ?_, fun c5 => ?_⟩, fun c4 => ⟨v0, in1 ⟨fun c5 => absurd c5 (by decide), fun _ => ⟨fun c5 => absurd c5 c3, fun _ => ⟨fun _ => ⟨fun c6 => absurd rfl c6, fun _ => same _⟩, fun c5 => absurd (Int32.not_le.mp c4) c5⟩⟩⟩⟩⟩⟩
  · have hl8 := e8.mp c5
    obtain ⟨g, hg, rfl⟩ := cm_lt (k := 999) c3 (by omega) c4
    obtain ⟨a, ha1, rfl⟩ := nI_of c
    have ha : a < n := by
      rcases Nat.lt_or_ge a n with h | h
      · exact h
      · exact absurd (nI_le h ha1) c2
    refine ⟨vp_in_nI hl8 (by omega), vp_in_nI hl8 (by omega), v0, in1 ⟨fun c6 => absurd c6 (by decide), fun _ => ⟨fun c6 => absurd c6 c3, fun _ => ⟨fun c6 => absurd c4 (Int32.not_le.mpr c6), fun _ => ⟨fun _ => ⟨fun _ => ?_, fun c6 => absurd (e9.mp c6) (by omega)⟩, fun c6 => absurd c6 (by decide)⟩⟩⟩⟩⟩
    rw [ix_2, nI_1, nI_1, nI_clamp (by omega), nI_clamp (by omega), nI_clamp (by omega)]
    refine ⟨vp_in_nI (by omega) (by omega), vp_in_nI (by omega) (by omega), hp _ _ _ _ _ _ ⟨sm + 1, by omega, rfl, rfl, fun i hi => ?_⟩⟩
    by_cases h : i = sm
    · subst h
      exact ⟨a, g, ha, hg, pk_us, pk_us, by rw [pk_un (by omega), pk_us], pk_us⟩
    · obtain ⟨a', g', q1, q2, q3, q4, q5, q6⟩ := hrow i (by omega)
      exact ⟨a', g', q1, q2, by rw [pk_un h]; exact q3, by rw [pk_un h]; exact q4, by rw [pk_un (by omega), pk_un (by omega)]; exact q5, by rw [pk_un (by omega), pk_un (by omega)]; exact q6⟩
  · have hl8 : ¬ sm < 8 := fun z => c5 (e8.mpr z)
    exact ⟨v0, in1 ⟨fun c6 => absurd c6 (by decide), fun _ => ⟨fun c6 => absurd c6 c3, fun _ => ⟨fun c6 => absurd c4 (Int32.not_le.mpr c6), fun _ => ⟨fun _ => ⟨fun c7 => absurd (e9.mpr (by omega)) c7, fun _ => same _⟩, fun c6 => absurd c6 (by decide)⟩⟩⟩⟩⟩
end CN
