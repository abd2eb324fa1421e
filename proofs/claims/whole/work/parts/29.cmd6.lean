section CS
variable {ns np nb so n d : Nat} {K : Nat → Nat → Nat} {Pa Pb Wd O : Nat → Nat} {xs xp xb xs2 xc : Int32} {xk xw xt xh xf xa xv : Nat → Int32} {ms mj mo mp : Int32} {mst mpr mwd : Nat → Int32} {xn xd : Int32} {xo mr : Nat → Int32}
theorem nI_nm1 {n : Nat} (h : n < 2 ^ 31) : nI n ≠ -1 := fun e => absurd (show nI n < 0 by rw [e]; decide) (nI_pos h)
/-! a row of lifts tried, winds left out -/
def cs_fs (ns : Nat) (K : Nat → Nat → Nat) (np : Nat) (Pa Pb : Nat → Nat) (nb : Nat) (T : Nat → Nat) : Nat → Nat → Nat → Int32
  | 0, _, _ => -1
  | k + 1, i, set => if pz_why ns K np Pa Pb (T i) set nb = 0 then cs_fs ns K np Pa Pb nb T k (i + 1) (set ||| 2 ^ T i) else nI i
theorem s_firstStuck {m : Nat} {T : Nat → Nat} {tr : Nat → Int32} {post : Int32 → Prop} (hs : cz_S ns K np Pa Pb nb so Wd xs xp xb xs2 xc xk xw xt xh xf xa xv ms mj mo mp mst mpr mwd) (hm : m ≤ 8) (hT : ∀ i, i < m → T i < ns ∧ tr i = nI (T i)) (hp : post (cs_fs ns K np Pa Pb nb T m 0 0)) : f_X4_firstStuck tr xs xw xf xb xk xc xa xt (nI m) post := by
  obtain ⟨ho, hnb, hso, hWd, ⟨e1, e2, e3, e4⟩, hX, hv, -⟩ := hs
  have hn8 := ho.1
  rw [e1, e3]
  have key : ∀ z i set, i + z = m → set < 256 → post (cs_fs ns K np Pa Pb nb T z i set) → mx_l2 (f_X4_firstStuck_4 tr (nI ns) xw xf (nI nb) xk xc xa xt post (nI m)) (z + 1) (nI set) (nI i) := by
    intro z
    induction z with
    | zero =>
      intro i set hi hset hp
      exact ⟨fun _ => hp, fun c => absurd (nI_le (by omega) (by omega)) c⟩
    | succ z ih =>
      intro i set hi hset hp
      obtain ⟨q1, q2⟩ := hT i (by omega)
      refine ⟨fun c => absurd c (nI_ge (by omega) (by omega)), fun _ => ⟨fun c => absurd c (nI_ge (b := 8) (by omega) (by omega)), fun _ => ⟨vp_in_nI (by omega) (by omega), ?_⟩⟩⟩
      rw [nI_clamp (by omega), q2]
      have hl := pz_why_le ns K np Pa Pb (T i) set nb
      refine s_X1_load ho hX hset (s_X1_whyNot ho hX hset q1 (by omega) ⟨fun c => ⟨vp_in_nI (by omega) (by omega), ?_⟩, fun c => ?_⟩)
      · rw [pz_or _ hset _ (by omega), nI_1]
        refine ih (i + 1) _ (by omega) (pz_or_lt _ hset _ (by omega)) ?_
        rw [cs_fs, if_pos ((nI_eq0 (by omega)).mp c)] at hp
        exact hp
      · rw [cs_fs, if_neg (fun z => c ((nI_eq0 (by omega)).mpr z))] at hp
        exact hp
  exact ⟨m + 1, key m 0 0 (by omega) (by omega) hp⟩
theorem s_firstWrong {m : Nat} {T : Nat → Nat} {tr : Nat → Int32} {post : Int32 → Prop} (hs : cz_S ns K np Pa Pb nb so Wd xs xp xb xs2 xc xk xw xt xh xf xa xv ms mj mo mp mst mpr mwd) (hm : m ≤ 8) (hT : ∀ i, i < m → T i < ns ∧ tr i = nI (T i)) (hp : post (cs_fs ns K np Pa Pb nb T m 0 0)) : f_X5_firstWrong tr mj ms mst mp mpr (nI m) post := by
  obtain ⟨ho, hnb, hso, hWd, -, -, -, ⟨e1, e2, e3, e4⟩, hM, hv⟩ := hs
  have hn8 := ho.1
  rw [e1, e2, e4]
  have key : ∀ z i set, i + z = m → set < 256 → post (cs_fs ns K np Pa Pb nb T z i set) → mx_l2 (f_X5_firstWrong_4 tr (nI nb) (nI ns) mst (nI np) mpr post (nI m)) (z + 1) (nI set) (nI i) := by
    intro z
    induction z with
    | zero =>
      intro i set hi hset hp
      exact ⟨fun _ => hp, fun c => absurd (nI_le (by omega) (by omega)) c⟩
    | succ z ih =>
      intro i set hi hset hp
      obtain ⟨q1, q2⟩ := hT i (by omega)
      refine ⟨fun c => absurd c (nI_ge (by omega) (by omega)), fun _ => ⟨vp_in_nI (by omega) (by omega), ?_⟩⟩
      rw [nI_clamp (by omega), q2]
      have hl := pz_why_le ns K np Pa Pb (T i) set nb
      refine s_X5_whyBy ho hM hset q1 (by omega) ⟨fun c => ⟨vp_in_nI (by omega) (by omega), ?_⟩, fun c => ?_⟩
      · rw [pz_or _ hset _ (by omega), nI_1]
        refine ih (i + 1) _ (by omega) (pz_or_lt _ hset _ (by omega)) ?_
        rw [cs_fs, if_pos ((nI_eq0 (by omega)).mp c)] at hp
        exact hp
      · rw [cs_fs, if_neg (fun z => c ((nI_eq0 (by omega)).mpr z))] at hp
        exact hp
  exact ⟨m + 1, key m 0 0 (by omega) (by omega) hp⟩
/-! one taken out -/
def cs_wo (O : Nat → Nat) (p j : Nat) : Nat := if j < p then O j else O (j + 1)
def cs_m (p i : Nat) : Nat := if i ≤ p then i else i - 1
theorem s_X4_wo {p : Nat} {post : Int32 → (Nat → Int32) → Prop} (hn8 : n ≤ 8) (hp1 : p < n) (hO : ∀ i, i < n → xo i = nI (O i)) (hp : ∀ tr', (∀ j, j < n - 1 → tr' j = nI (cs_wo O p j)) → f_X4_without_79 xs (nI n) xo xw xf xb xk xc xa xt post (nI (n - 1)) tr') : ∀ z i tr, i + z = n → (∀ j, j < cs_m p i → tr j = nI (cs_wo O p j)) → mx_l3 (f_X4_without_36 xs (nI n) xo xw xf xb xk xc xa xt post (nI p)) (z + 1) (nI (cs_m p i)) (nI i) tr := by
  intro z
  induction z with
  | zero =>
    intro i tr hi ht
    refine ⟨fun _ => ?_, fun c => absurd (nI_le (by omega) (by omega)) c⟩
    have e : cs_m p i = n - 1 := by unfold cs_m; rw [if_neg (by omega)]; omega
    rw [e] at ht ⊢
    exact hp tr ht
  | succ z ih =>
    intro i tr hi ht
    refine ⟨fun c => absurd c (nI_ge (by omega) (by omega)), fun _ => ?_⟩
    rw [nI_eq (by omega) (by omega)]
    refine ⟨fun c => ?_, fun c => ?_⟩
    · have e : cs_m p (i + 1) = cs_m p i := by unfold cs_m; rw [if_neg (by omega), if_pos (by omega)]; omega
      rw [nI_1, ← e]
      exact ih (i + 1) tr (by omega) (by rw [e]; exact ht)
    · have e : cs_m p (i + 1) = cs_m p i + 1 := by unfold cs_m; split <;> split <;> omega
      have e2 : cs_m p i ≤ i := by unfold cs_m; split <;> omega
      have e3 : O i = cs_wo O p (cs_m p i) := by
        unfold cs_wo cs_m
        by_cases h : i ≤ p
        · rw [if_pos h, if_pos (by omega)]
        · rw [if_neg h, if_neg (by omega), show i - 1 + 1 = i by omega]
      refine ⟨vp_in_nI (by omega) (by omega), vp_in_nI (by omega) (by omega), ?_⟩
      rw [nI_1, nI_1, ← e, nI_clamp (by omega), nI_clamp (by omega)]
      refine ih (i + 1) _ (by omega) (fun j hj => ?_)
      rw [e] at hj
      by_cases h : j = cs_m p i
      · subst h; rw [pk_us, hO i (by omega), e3]
      · rw [pk_un h]; exact ht j (by omega)
theorem s_X5_wo {p : Nat} {post : Int32 → (Nat → Int32) → Prop} (hn8 : n ≤ 8) (hp1 : p < n) (h0 : mr 0 = nI n) (hO : ∀ i, i < n → mr (2 + i) = nI (O i)) (hO8 : ∀ i, i < n → O i < 8) (hd : ∀ i j, i < n → j < n → O i = O j → i = j) (hp : ∀ tr', (∀ j, j < n - 1 → tr' j = nI (cs_wo O p j)) → f_X5_without_74 ms mr mj mst mp mpr post (nI (n - 1)) tr') : ∀ z i tr, i + z = n → (∀ j, j < cs_m p i → tr j = nI (cs_wo O p j)) → mx_l3 (f_X5_without_29 ms mr mj mst mp mpr post (nI (O p))) (z + 1) (nI (cs_m p i)) (nI i) tr := by
  intro z
  induction z with
  | zero =>
    intro i tr hi ht
    refine ⟨vp_in_nI (n := 0) (by omega) (by omega), ?_⟩
    rw [ix_0, h0]
    refine ⟨fun _ => ?_, fun c => absurd (nI_le (by omega) (by omega)) c⟩
    have e : cs_m p i = n - 1 := by unfold cs_m; rw [if_neg (by omega)]; omega
    rw [e] at ht ⊢
    exact hp tr ht
  | succ z ih =>
    intro i tr hi ht
    have g1 := hO8 i (by omega)
    have g2 := hO8 p hp1
    refine ⟨vp_in_nI (n := 0) (by omega) (by omega), ?_⟩
    rw [ix_0, h0]
    refine ⟨fun c => absurd c (nI_ge (by omega) (by omega)), fun _ => ?_⟩
    rw [ix_2p, nI_clamp (by omega), hO i (by omega), nI_eq (by omega) (by omega)]
    refine ⟨vp_in_nI (by omega) (by omega), fun c => ?_, fun c => ?_⟩
    · have c2 := hd _ _ (by omega) hp1 c
      have e : cs_m p (i + 1) = cs_m p i := by unfold cs_m; rw [if_neg (by omega), if_pos (by omega)]; omega
      rw [nI_1, ← e]
      exact ih (i + 1) tr (by omega) (by rw [e]; exact ht)
    · have c2 : i ≠ p := fun z => c (by rw [z])
      have e : cs_m p (i + 1) = cs_m p i + 1 := by unfold cs_m; split <;> split <;> omega
      have e2 : cs_m p i ≤ i := by unfold cs_m; split <;> omega
      have e3 : O i = cs_wo O p (cs_m p i) := by
        unfold cs_wo cs_m
        by_cases h : i ≤ p
        · rw [if_pos h, if_pos (by omega)]
        · rw [if_neg h, if_neg (by omega), show i - 1 + 1 = i by omega]
      refine ⟨vp_in_nI (by omega) (by omega), vp_in_nI (by omega) (by omega), ?_⟩
      rw [nI_1, nI_1, ← e, nI_clamp (by omega)]
      refine ih (i + 1) _ (by omega) (fun j hj => ?_)
      rw [e] at hj
      by_cases h : j = cs_m p i
      · subst h; rw [pk_us, e3]
      · rw [pk_un h]; exact ht j (by omega)
theorem j_without {x : Int32} {xtr mtr : Nat → Int32} {post : Int32 → (Nat → Int32) → Int32 → (Nat → Int32) → Prop} (hs : cz_S ns K np Pa Pb nb so Wd xs xp xb xs2 xc xk xw xt xh xf xa xv ms mj mo mp mst mpr mwd) (hw : cz_W ns n d O xn xd xo mr 0) (hp : ∀ r a b, post r a r b) : f_X4_without xs xn xo xw xf xb xk xc xa xt xtr x (fun r a => f_X5_without ms mr mj mst mp mpr mtr x (fun r2 b => post r a r2 b)) := by
  have hn8 := hs.1.1
  obtain ⟨e1, -⟩ := hs.2.2.2.2.1
  obtain ⟨g1, -⟩ := hs.2.2.2.2.2.2.2.1
  have hn := hw.1
  have o8 := hw.o8 hn8
  have hO : ∀ i, i < n → mr (2 + i) = nI (O i) := fun i hi => by have := (hw.2.2.2.2.2.2.1 i hi).2.2; rw [show 0 + 2 + i = 2 + i by omega] at this; exact this
  unfold f_X4_without
  rcases cz_ix x hn8 with ⟨j, hj, rfl⟩ | hx
  · have isw : ∀ {P : Int32 → Prop}, P 1 → f_X5_isStorey ms (nI j) P := fun h => by rw [g1]; exact s_st_t hn8 hj h
    have isx : ∀ {P : Int32 → Prop}, P 1 → f_X1_has xs (nI j) P := fun h => by rw [e1]; exact s_has_t hn8 hj h
    refine isx ⟨fun _ => s_placeOf hw hn8 hj (fun p hp1 hp2 => ⟨fun _ => ?_, fun c => absurd c (nI_nm1 (by omega))⟩) (fun hne => ⟨fun c => absurd rfl c, fun _ => ?_⟩), fun c => absurd c (by decide)⟩
    · subst hp2
      rw [hw.2.2.1]
      refine ⟨n + 1, s_X4_wo (by omega) hp1 (fun i hi => (hw.2.2.2.2.2.2.1 i hi).2.1) (fun tr' ht => ?_) n 0 xtr (by omega) (fun j hj => absurd hj (by unfold cs_m; rw [if_pos (by omega)]; omega))⟩
      have hT : ∀ i, i < n - 1 → cs_wo O p i < ns := fun i hi => by
        unfold cs_wo; split
        · exact (hw.2.2.2.2.2.2.1 _ (by omega)).1
        · exact (hw.2.2.2.2.2.2.1 _ (by omega)).1
      unfold f_X4_without_79
      refine s_firstStuck hs (by omega) (fun i hi => ⟨hT i hi, ht i hi⟩) ?_
      refine isw ⟨fun _ => s_upSet hw hn8 (s_X5_has (cz_up_lt o8) (by omega) (fun hb => ⟨fun _ => ?_, fun c => absurd c (by decide)⟩) (fun hb => ?_)), fun c => absurd c (by decide)⟩
      · refine ⟨n + 1, s_X5_wo (by omega) hp1 hw.2.2.2.2.1 hO o8 hw.2.2.2.2.2.2.2 (fun tr2 ht2 => ?_) n 0 mtr (by omega) (fun j hj => absurd hj (by unfold cs_m; rw [if_pos (by omega)]; omega))⟩
        unfold f_X5_without_74
        exact s_firstWrong hs (by omega) (fun i hi => ⟨hT i hi, ht2 i hi⟩) (hp _ _ _)
      · have := (cz_up_bit (O := O) (n := n) (O p)).mpr ⟨p, hp1, rfl⟩
        rw [hb] at this; cases this
    · refine isw ⟨fun _ => s_upSet hw hn8 (s_X5_has (cz_up_lt o8) (by omega) (fun hb => ?_) (fun hb => ⟨fun c => absurd rfl c, fun _ => hp _ _ _⟩)), fun c => absurd c (by decide)⟩
      obtain ⟨k, h1, h2⟩ := (cz_up_bit j).mp hb
      exact absurd h2 (hne k h1)
  · rw [e1]
    refine s_has_f hn8 hx ⟨fun c => absurd rfl c, fun _ => ?_⟩
    unfold f_X5_without
    rw [g1]
    exact s_st_f hn8 hx ⟨fun c => absurd rfl c, fun _ => hp _ _ _⟩
end CS
