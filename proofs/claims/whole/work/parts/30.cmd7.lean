section CT
variable {ns np nb so n d : Nat} {K : Nat → Nat → Nat} {Pa Pb Wd O : Nat → Nat} {xs xp xb xs2 xc : Int32} {xk xw xt xh xf xa xv : Nat → Int32} {ms mj mo mp : Int32} {mst mpr mwd : Nat → Int32} {xn xd : Int32} {xo mr : Nat → Int32}
/-! one set in -/
def ct_in (O : Nat → Nat) (s at' j : Nat) : Nat := if j < at' then O j else if j = at' then s else O (j - 1)
theorem s_X4_in {s a : Nat} {post : Int32 → (Nat → Int32) → Prop} (hn8 : n < 8) (ha : a ≤ n) (hO : ∀ i, i < n → xo i = nI (O i)) (hp : ∀ tr', (∀ j, j ≤ n → j ≠ a → tr' j = nI (ct_in O s a j)) → f_X4_in_104 xs (nI n) xo xw xf xb xk xc xa xt post (nI s) (nI a) tr') : ∀ z i tr, i + z = n → (∀ j, (j < i ∨ (j = i ∧ a < j)) → j ≠ a → tr j = nI (ct_in O s a j)) → mx_l2 (f_X4_in_61 xs (nI n) xo xw xf xb xk xc xa xt post (nI s) (nI a)) (z + 1) (nI i) tr := by
  intro z
  induction z with
  | zero =>
    intro i tr hi ht
    refine ⟨fun _ => hp tr (fun j hj hne => ht j (by omega) hne), fun c => absurd (nI_le (by omega) (by omega)) c⟩
  | succ z ih =>
    intro i tr hi ht
    refine ⟨fun c => absurd c (nI_ge (by omega) (by omega)), fun _ => ?_⟩
    rw [nI_leI (by omega) (by omega)]
    refine ⟨fun c => ⟨vp_in_nI (by omega) (by omega), ?_⟩, fun c => ⟨vp_in_nI (by omega) (by omega), vp_in_nI (by omega) (by omega), ?_⟩⟩
    · rw [nI_1, nI_clamp (by omega), nI_clamp (by omega)]
      refine ⟨vp_in_nI (by omega) (by omega), ih (i + 1) _ (by omega) (fun j hj hne => ?_)⟩
      by_cases h : j = i + 1
      · subst h
        rw [pk_us, hO i (by omega), ct_in, if_neg (by omega), if_neg (by omega), show i + 1 - 1 = i by omega]
      · rw [pk_un h]; exact ht j (by omega) hne
    · rw [nI_1, nI_clamp (by omega)]
      refine ih (i + 1) _ (by omega) (fun j hj hne => ?_)
      by_cases h : j = i
      · subst h
        rw [pk_us, hO j (by omega), ct_in, if_pos (by omega)]
      · rw [pk_un h]; exact ht j (by omega) hne
theorem s_X5_in {s a : Nat} {post : Int32 → (Nat → Int32) → Prop} (hn8 : n < 8) (ha : a ≤ n) (h0 : mr 0 = nI n) (hO : ∀ i, i < n → mr (2 + i) = nI (O i)) (hp : ∀ tr', (∀ j, j ≤ n → tr' j = nI (ct_in O s a j)) → f_X5_in_99 ms mr mj mst mp mpr post tr') : ∀ z i tr, i + z = n + 1 → (∀ j, j < i → tr j = nI (ct_in O s a j)) → mx_l2 (f_X5_in_44 ms mr mj mst mp mpr post (nI s) (nI a)) (z + 1) (nI i) tr := by
  intro z
  induction z with
  | zero =>
    intro i tr hi ht
    refine ⟨vp_in_nI (n := 0) (by omega) (by omega), ?_⟩
    rw [ix_0, h0, nI_ltI (by omega) (by omega)]
    exact ⟨fun _ => hp tr (fun j hj => ht j (by omega)), fun c => absurd (by omega) c⟩
  | succ z ih =>
    intro i tr hi ht
    have st : ∀ v, v = nI (ct_in O s a i) → f_X5_in_92 ms mr mj mst mp mpr (mx_l2 (f_X5_in_44 ms mr mj mst mp mpr post (nI s) (nI a)) (z + 1)) post (nI s) (nI a) (nI i) (nI i) v tr := by
      intro v hv
      refine ⟨vp_in_nI (by omega) (by omega), ?_⟩
      rw [nI_1, nI_clamp (by omega)]
      refine ih (i + 1) _ (by omega) (fun j hj => ?_)
      by_cases h : j = i
      · subst h; rw [pk_us, hv]
      · rw [pk_un h]; exact ht j (by omega)
    refine ⟨vp_in_nI (n := 0) (by omega) (by omega), ?_⟩
    rw [ix_0, h0, nI_ltI (by omega) (by omega), nI_leI (by omega) (by omega), nI_eq (by omega) (by omega), ix_1p, ix_2p, nI_clamp (by omega), nI_clamp (by omega)]
    refine ⟨fun c => absurd c (by omega), fun _ => ⟨fun c => ⟨fun c2 => ⟨vp_in_nI (by omega) (by omega), st _ ?_⟩, fun c2 => st _ ?_⟩, fun c => ⟨vp_in_nI (by omega) (by omega), st _ ?_⟩⟩⟩
    · rw [ct_in, if_neg (by omega), if_neg c2, ← hO (i - 1) (by omega), show 2 + (i - 1) = 1 + i by omega]
    · rw [ct_in, if_neg (by omega), if_pos c2]
    · rw [ct_in, if_pos (by omega), hO i (by omega)]
theorem j_in {x y : Int32} {xtr mtr : Nat → Int32} {post : Int32 → (Nat → Int32) → Int32 → (Nat → Int32) → Prop} (hs : cz_S ns K np Pa Pb nb so Wd xs xp xb xs2 xc xk xw xt xh xf xa xv ms mj mo mp mst mpr mwd) (hw : cz_W ns n d O xn xd xo mr 0) (hp : ∀ r a b, post r a r b) : f_X4_in xs xn xo xw xf xb xk xc xa xt xtr x y (fun r a => f_X5_in ms mr mj mst mp mpr mtr x y (fun r2 b => post r a r2 b)) := by
  have hn8 := hs.1.1
  obtain ⟨e1, -⟩ := hs.2.2.2.2.1
  obtain ⟨g1, -⟩ := hs.2.2.2.2.2.2.2.1
  have hn := hw.1
  have o8 := hw.o8 hn8
  have h0 : mr 0 = nI n := hw.2.2.2.2.1
  have v0 : vp_in 0 10 := vp_in_nI (n := 0) (by omega) (by omega)
  have hO : ∀ i, i < n → mr (2 + i) = nI (O i) := fun i hi => by have := (hw.2.2.2.2.2.2.1 i hi).2.2; rw [show 0 + 2 + i = 2 + i by omega] at this; exact this
  unfold f_X4_in
  rcases cz_ix x hn8 with ⟨j, hj, rfl⟩ | hx
  · have isw : ∀ {P : Int32 → Prop}, P 1 → f_X5_isStorey ms (nI j) P := fun h => by rw [g1]; exact s_st_t hn8 hj h
    have isx : ∀ {P : Int32 → Prop}, P 1 → f_X1_has xs (nI j) P := fun h => by rw [e1]; exact s_has_t hn8 hj h
    refine isx ⟨fun _ => ⟨fun c => ?_, fun c => ⟨fun c2 => ?_, fun c2 => ?_⟩⟩, fun c => absurd c (by decide)⟩
    · exact isw ⟨fun _ => ⟨v0, fun _ => ⟨fun c3 => absurd rfl c3, fun _ => hp _ _ _⟩, fun c3 => absurd c c3⟩, fun c => absurd c (by decide)⟩
    · rw [hw.2.2.1] at c2
      obtain ⟨a, ha, rfl⟩ := cm_lt (k := n) c (by omega) c2
      have isb : ∀ {P : Int32 → Prop}, P 1 → f_X5_in1 (nI a) 0 (mr (0 : Int32).toNatClampNeg) P := fun h => by
        rw [ix_0, h0]
        exact ⟨fun c3 => absurd c3 c, fun _ => ⟨fun c3 => absurd c2 (Int32.not_le.mpr c3), fun _ => h⟩⟩
      refine s_placeOf hw hn8 hj (fun p hp1 hp2 => ⟨fun _ => ?_, fun c => absurd c (nI_nm1 (by omega))⟩) (fun hne => ⟨fun c => absurd rfl c, fun _ => ?_⟩)
      · subst hp2
        refine isw ⟨fun _ => ⟨v0, isb ⟨fun _ => s_upSet hw hn8 (s_X5_has (cz_up_lt o8) (by omega) (fun hb => ⟨fun c => absurd c (by decide), fun _ => hp _ _ _⟩) (fun hb => ?_)), fun c => absurd c (by decide)⟩⟩, fun c => absurd c (by decide)⟩
        have := (cz_up_bit (O := O) (n := n) (O p)).mpr ⟨p, hp1, rfl⟩
        rw [hb] at this; cases this
      · have hbj : (cz_up O n).testBit j = false := pz_tf (fun z => by
          obtain ⟨k, h1, h2⟩ := (cz_up_bit j).mp z
          exact hne k h1 h2)
        have hlt : n + 1 ≤ ns := by
          refine fb_holes ns (n + 1) (fun i => if i = n then j else O i) (fun i hi => ?_) (fun a b hab hb2 => ?_)
          · by_cases h : i = n
            · simp [h, hj]
            · simp only [h, if_false]; exact (hw.2.2.2.2.2.2.1 i (by omega)).1
          · by_cases h : b = n
            · subst h
              simp only [if_true, show ¬ a = b by omega, if_false]
              exact hne a (by omega)
            · simp only [h, show ¬ a = n by omega, if_false]
              intro e
              have := hw.2.2.2.2.2.2.2 a b (by omega) (by omega) e
              omega
        rw [hw.2.2.1]
        refine ⟨fun _ => ⟨n + 1, s_X4_in (by omega) ha (fun i hi => (hw.2.2.2.2.2.2.1 i hi).2.1) (fun tr' ht => ?_) n 0 xtr (by omega) (fun j hj hne => absurd hj (by omega))⟩, fun c => absurd ((nI_ltI (b := 8) (by omega) (by omega)).mpr (by omega)) c⟩
        have hT : ∀ i, i < n + 1 → ct_in O j a i < ns := fun i hi => by
          unfold ct_in; split
          · exact (hw.2.2.2.2.2.2.1 _ (by omega)).1
          · split
            · exact hj
            · exact (hw.2.2.2.2.2.2.1 _ (by omega)).1
        refine ⟨vp_in_nI (by omega) (by omega), ?_⟩
        rw [nI_1, nI_clamp (by omega)]
        have mm : ∀ {P : Int32 → (Nat → Int32) → Prop}, (¬ cs_fs ns K np Pa Pb nb (ct_in O j a) (n + 1) 0 0 = -1 → ∀ b, P 0 b) → (cs_fs ns K np Pa Pb nb (ct_in O j a) (n + 1) 0 0 = -1 → ∀ b, P 1 b) → f_X5_in ms mr mj mst mp mpr mtr (nI j) (nI a) P := by
          intro P q0 q1
          refine isw ⟨fun _ => ⟨v0, isb ⟨fun _ => s_upSet hw hn8 (s_X5_has (cz_up_lt o8) (by omega) (fun hb => ?_) (fun hb => ⟨fun _ => ?_, fun c => absurd rfl c⟩)), fun c => absurd c (by decide)⟩⟩, fun c => absurd c (by decide)⟩
          · rw [hbj] at hb; cases hb
          · refine ⟨n + 2, s_X5_in (by omega) ha h0 hO (fun tr2 ht2 => ⟨v0, ?_⟩) (n + 1) 0 mtr (by omega) (fun j hj => absurd hj (by omega))⟩
            rw [ix_0, h0, nI_1]
            exact s_firstWrong hs (by omega) (fun i hi => ⟨hT i hi, ht2 i (by omega)⟩) ⟨fun c => q0 c _, fun c => q1 c _⟩
        refine s_firstStuck hs (T := ct_in O j a) (by omega) (fun i hi => ⟨hT i hi, ?_⟩) ⟨fun c => mm (fun _ b => hp _ _ _) (fun c2 => absurd c2 c), fun c => mm (fun c2 => absurd c c2) (fun _ b => hp _ _ _)⟩
        by_cases h : i = a
        · subst h; rw [pk_us, ct_in, if_neg (by omega), if_pos rfl]
        · rw [pk_un h]; exact ht i (by omega) h
    · refine isw ⟨fun _ => ⟨v0, ?_⟩, fun c => absurd c (by decide)⟩
      rw [ix_0, h0]
      rw [hw.2.2.1] at c2
      exact ⟨fun c3 => absurd c3 c, fun _ => ⟨fun _ => ⟨fun c3 => absurd rfl c3, fun _ => hp _ _ _⟩, fun c3 => absurd (Int32.not_le.mp c2) c3⟩⟩
  · rw [e1]
    refine s_has_f hn8 hx ⟨fun c => absurd rfl c, fun _ => ?_⟩
    unfold f_X5_in
    rw [g1]
    exact s_st_f hn8 hx ⟨fun c => absurd rfl c, fun _ => hp _ _ _⟩
end CT
