section CP
variable {ns np nb so n d : Nat} {K : Nat → Nat → Nat} {Pa Pb Wd O : Nat → Nat} {xs xp xb xs2 xc : Int32} {xk xw xt xh xf xa xv : Nat → Int32} {ms mj mo mp : Int32} {mst mpr mwd : Nat → Int32} {xn xd : Int32} {xo mr : Nat → Int32} {cellars : Int32} {kind weight strength height folk above storey pair : Nat → Int32}
def pz_hg (ns : Nat) (K : Nat → Nat → Nat) (set : Nat) : Nat := pz_high (fun s => K s 3) ns set
theorem pz_hg_le (ho : pz_ok ns K np Pa Pb) (set : Nat) : pz_hg ns K set ≤ 72 := by
  have h1 := pz_sm_le (f := pz_on (fun s => K s 3) set) (c := 9) (n := ns) (fun k hk => pz_on_le (by have := ho.2.2.1 k hk; omega))
  have h2 := ho.1
  show pz_sm (pz_on (fun s => K s 3) set) ns ≤ _
  have h3 : ns * 9 ≤ 8 * 9 := Nat.mul_le_mul_right _ h2
  omega
theorem s_X1_heightOf {set : Nat} {post : Int32 → Prop} (ho : pz_ok ns K np Pa Pb) (hx : pz_X ns K np Pa Pb cellars kind weight strength height folk above) (hset : set < 256) (hp : post (nI (pz_hg ns K set))) : f_X1_heightOf (nI ns) height (nI set) post := by
  have hs8 := ho.1
  have key : ∀ k i, i + k = ns → mx_l2 (f_X1_heightOf_4 (nI ns) height post (nI set)) (k + 1) (nI (pz_hg i K set)) (nI i) := by
    intro k
    induction k with
    | zero =>
      intro i hi
      refine ⟨fun _ => ?_, fun c => absurd (nI_le (by omega) (by omega)) c⟩
      rw [show i = ns by omega]
      exact hp
    | succ k ih =>
      intro i hi
      refine ⟨fun c => absurd c (nI_ge (by omega) (by omega)), fun _ => ⟨fun c => ?_, fun c => ?_⟩⟩
      · have hb : set.testBit i = false := pz_tf (fun z => c ((pz_bit set hset i (by omega)).mpr z))
        have e : pz_hg (i + 1) K set = pz_hg i K set := by simp [pz_hg, pz_high, pz_sm, pz_on, hb]
        have h9 := ih (i + 1) (by omega)
        rw [e] at h9
        rw [nI_1]
        exact h9
      · have hb := (pz_bit set hset i (by omega)).mp c
        refine ⟨vp_in_nI (by omega) (by omega), ?_⟩
        have e : pz_hg (i + 1) K set = pz_hg i K set + K i 3 := by simp [pz_hg, pz_high, pz_sm, pz_on, hb]
        have h9 := ih (i + 1) (by omega)
        rw [e] at h9
        rw [nI_1, nI_clamp (by omega), (hx.2 i (by omega)).2.2.2.1, nI_add]
        exact h9
  exact ⟨ns + 1, key ns 0 (by omega)⟩
theorem s_X5_highOf {set : Nat} {post : Int32 → Prop} (ho : pz_ok ns K np Pa Pb) (hm : pz_M ns K np Pa Pb storey pair) (hset : set < 256) (hp : post (nI (pz_hg ns K set))) : f_X5_highOf (nI ns) storey (nI set) post := by
  have hs8 := ho.1
  have key : ∀ k i, i + k = ns → mx_l2 (f_X5_highOf_4 (nI ns) storey post (nI set)) (k + 1) (nI (pz_hg i K set)) (nI i) := by
    intro k
    induction k with
    | zero =>
      intro i hi
      refine ⟨fun _ => ?_, fun c => absurd (nI_le (by omega) (by omega)) c⟩
      rw [show i = ns by omega]
      exact hp
    | succ k ih =>
      intro i hi
      refine ⟨fun c => absurd c (nI_ge (by omega) (by omega)), fun _ => s_X5_has hset (by omega) (fun hb => ⟨fun c => absurd c (by decide), fun _ => ?_⟩) (fun hb => ⟨fun _ => ?_, fun c => absurd rfl c⟩)⟩
      · rw [ix_5, ix_p3, nI_clamp (by omega), hm.1 i (by omega) 3 (by omega)]
        refine ⟨vp_in_nI (by omega) (by omega), ?_⟩
        show mx_l2 _ _ _ _
        have e : pz_hg (i + 1) K set = pz_hg i K set + K i 3 := by simp [pz_hg, pz_high, pz_sm, pz_on, hb]
        have h9 := ih (i + 1) (by omega)
        rw [e] at h9
        rw [nI_1, nI_add]
        exact h9
      · show mx_l2 _ _ _ _
        have e : pz_hg (i + 1) K set = pz_hg i K set := by simp [pz_hg, pz_high, pz_sm, pz_on, hb]
        have h9 := ih (i + 1) (by omega)
        rw [e] at h9
        rw [nI_1, show nI (pz_hg i K set) + 0 = nI (pz_hg i K set) from nI_add _ 0]
        exact h9
  exact ⟨ns + 1, key ns 0 (by omega)⟩
theorem j_count {x : Int32} {xl xm sm mm ml2 sm2 : Int32} {post : Int32 → Int32 → Prop} (hs : cz_S ns K np Pa Pb nb so Wd xs xp xb xs2 xc xk xw xt xh xf xa xv ms mj mo mp mst mpr mwd) (hw : cz_W ns n d O xn xd xo mr 0) (ha : xl = ml2) (hb : sm = sm2) (hc : xm = mm) (hp : ∀ r, post r r) : f_X4_count xl sm xm xd xv xn xo xs xw xf xh xp xs2 xb x (fun r => f_X5_count ml2 sm2 mm mr mwd ms mst mp mo mj x (fun r2 => post r r2)) := by
  have hn8 := hs.1.1
  have ho := hs.1
  obtain ⟨e1, e2, e3, e4⟩ := hs.2.2.2.2.1
  obtain ⟨g1, g2, g3, g4⟩ := hs.2.2.2.2.2.2.2.1
  have hX := hs.2.2.2.2.2.1
  have hM := hs.2.2.2.2.2.2.2.2.1
  have hv := hs.2.2.2.2.2.2.1
  have hv2 := hs.2.2.2.2.2.2.2.2.2
  have hd := hw.2.1
  have w0 : mr 0 = nI n := hw.2.2.2.2.1
  have w1 : mr 1 = nI d := hw.2.2.2.2.2.1
  have v0 : vp_in 0 10 := vp_in_nI (n := 0) (by omega) (by omega)
  have v1 : vp_in 1 10 := vp_in_nI (n := 1) (by omega) (by omega)
  have hset := cz_up_lt (hw.o8 hn8)
  subst ha hb hc
  unfold f_X4_count f_X5_count
  rw [ix_0, ix_1, w0, w1, hw.2.2.2.1]
  by_cases n0 : x = 0
  · refine ⟨fun _ => ?_, fun c => absurd n0 c⟩
    exact ⟨fun _ => by rw [e1, g1]; exact hp _, fun c => absurd n0 c⟩
  by_cases n1 : x = 1
  · refine ⟨fun c => absurd c n0, fun _ => ⟨fun _ => ?_, fun c => absurd n1 c⟩⟩
    exact ⟨fun c => absurd c n0, fun _ => ⟨fun _ => by rw [e3, g2]; exact hp _, fun c => absurd n1 c⟩⟩
  by_cases n2 : x = 2
  · refine ⟨fun c => absurd c n0, fun _ => ⟨fun c => absurd c n1, fun _ => ⟨fun _ => ?_, fun c => absurd n2 c⟩⟩⟩
    exact ⟨fun c => absurd c n0, fun _ => ⟨fun c => absurd c n1, fun _ => ⟨fun _ => by rw [e4, g3]; exact hp _, fun c => absurd n2 c⟩⟩⟩
  by_cases n3 : x = 3
  · refine ⟨fun c => absurd c n0, fun _ => ⟨fun c => absurd c n1, fun _ => ⟨fun c => absurd c n2, fun _ => ⟨fun _ => ?_, fun c => absurd n3 c⟩⟩⟩⟩
    exact ⟨fun c => absurd c n0, fun _ => ⟨fun c => absurd c n1, fun _ => ⟨fun c => absurd c n2, fun _ => ⟨fun _ => by rw [e2, g4]; exact hp _, fun c => absurd n3 c⟩⟩⟩⟩
  by_cases n4 : x = 4
  · refine ⟨fun c => absurd c n0, fun _ => ⟨fun c => absurd c n1, fun _ => ⟨fun c => absurd c n2, fun _ => ⟨fun c => absurd c n3, fun _ => ⟨fun _ => ?_, fun c => absurd n4 c⟩⟩⟩⟩⟩
    exact ⟨fun c => absurd c n0, fun _ => ⟨fun c => absurd c n1, fun _ => ⟨fun c => absurd c n2, fun _ => ⟨fun c => absurd c n3, fun _ => ⟨fun _ => ⟨v0, by rw [hw.2.2.1]; exact hp _⟩, fun c => absurd n4 c⟩⟩⟩⟩⟩
  by_cases n5 : x = 5
  · refine ⟨fun c => absurd c n0, fun _ => ⟨fun c => absurd c n1, fun _ => ⟨fun c => absurd c n2, fun _ => ⟨fun c => absurd c n3, fun _ => ⟨fun c => absurd c n4, fun _ => ⟨fun _ => ?_, fun c => absurd n5 c⟩⟩⟩⟩⟩⟩
    exact ⟨fun c => absurd c n0, fun _ => ⟨fun c => absurd c n1, fun _ => ⟨fun c => absurd c n2, fun _ => ⟨fun c => absurd c n3, fun _ => ⟨fun c => absurd c n4, fun _ => ⟨fun _ => ⟨v1, hp _⟩, fun c => absurd n5 c⟩⟩⟩⟩⟩⟩
  by_cases n6 : x = 6
  · refine ⟨fun c => absurd c n0, fun _ => ⟨fun c => absurd c n1, fun _ => ⟨fun c => absurd c n2, fun _ => ⟨fun c => absurd c n3, fun _ => ⟨fun c => absurd c n4, fun _ => ⟨fun c => absurd c n5, fun _ => ⟨fun _ => s_set hw hn8 ?_, fun c => absurd n6 c⟩⟩⟩⟩⟩⟩⟩
    rw [e1]
    refine s_X1_heightOf ho hX hset ?_
    refine ⟨fun c => absurd c n0, fun _ => ⟨fun c => absurd c n1, fun _ => ⟨fun c => absurd c n2, fun _ => ⟨fun c => absurd c n3, fun _ => ⟨fun c => absurd c n4, fun _ => ⟨fun c => absurd c n5, fun _ => ⟨fun _ => s_upSet hw hn8 ?_, fun c => absurd n6 c⟩⟩⟩⟩⟩⟩⟩
    rw [g1]
    exact s_X5_highOf ho hM hset (hp _)
  by_cases n7 : x = 7
  · refine ⟨fun c => absurd c n0, fun _ => ⟨fun c => absurd c n1, fun _ => ⟨fun c => absurd c n2, fun _ => ⟨fun c => absurd c n3, fun _ => ⟨fun c => absurd c n4, fun _ => ⟨fun c => absurd c n5, fun _ => ⟨fun c => absurd c n6, fun _ => ⟨fun _ => s_set hw hn8 ?_, fun c => absurd n7 c⟩⟩⟩⟩⟩⟩⟩⟩
    rw [e1]
    refine s_X1_load ho hX hset ?_
    refine ⟨fun c => absurd c n0, fun _ => ⟨fun c => absurd c n1, fun _ => ⟨fun c => absurd c n2, fun _ => ⟨fun c => absurd c n3, fun _ => ⟨fun c => absurd c n4, fun _ => ⟨fun c => absurd c n5, fun _ => ⟨fun c => absurd c n6, fun _ => ⟨fun _ => s_upSet hw hn8 ?_, fun c => absurd n7 c⟩⟩⟩⟩⟩⟩⟩⟩
    rw [g1]
    exact s_X5_loadOfAll ho hM hset (hp _)
  by_cases n8 : x = 8
  · refine ⟨fun c => absurd c n0, fun _ => ⟨fun c => absurd c n1, fun _ => ⟨fun c => absurd c n2, fun _ => ⟨fun c => absurd c n3, fun _ => ⟨fun c => absurd c n4, fun _ => ⟨fun c => absurd c n5, fun _ => ⟨fun c => absurd c n6, fun _ => ⟨fun c => absurd c n7, fun _ => ⟨fun _ => s_X1_windOf (by omega) hv ?_, fun c => absurd n8 c⟩⟩⟩⟩⟩⟩⟩⟩⟩
    exact ⟨fun c => absurd c n0, fun _ => ⟨fun c => absurd c n1, fun _ => ⟨fun c => absurd c n2, fun _ => ⟨fun c => absurd c n3, fun _ => ⟨fun c => absurd c n4, fun _ => ⟨fun c => absurd c n5, fun _ => ⟨fun c => absurd c n6, fun _ => ⟨fun c => absurd c n7, fun _ => ⟨fun _ => ⟨v1, s_X5_windOf (by omega) hv2 (hp _)⟩, fun c => absurd n8 c⟩⟩⟩⟩⟩⟩⟩⟩⟩
  by_cases n9 : x = 9
  · refine ⟨fun c => absurd c n0, fun _ => ⟨fun c => absurd c n1, fun _ => ⟨fun c => absurd c n2, fun _ => ⟨fun c => absurd c n3, fun _ => ⟨fun c => absurd c n4, fun _ => ⟨fun c => absurd c n5, fun _ => ⟨fun c => absurd c n6, fun _ => ⟨fun c => absurd c n7, fun _ => ⟨fun c => absurd c n8, fun _ => ⟨fun _ => ?_, fun c => absurd n9 c⟩⟩⟩⟩⟩⟩⟩⟩⟩⟩
    exact ⟨fun c => absurd c n0, fun _ => ⟨fun c => absurd c n1, fun _ => ⟨fun c => absurd c n2, fun _ => ⟨fun c => absurd c n3, fun _ => ⟨fun c => absurd c n4, fun _ => ⟨fun c => absurd c n5, fun _ => ⟨fun c => absurd c n6, fun _ => ⟨fun c => absurd c n7, fun _ => ⟨fun c => absurd c n8, fun _ => ⟨fun _ => hp _, fun c => absurd n9 c⟩⟩⟩⟩⟩⟩⟩⟩⟩⟩
  by_cases n10 : x = 10
  · refine ⟨fun c => absurd c n0, fun _ => ⟨fun c => absurd c n1, fun _ => ⟨fun c => absurd c n2, fun _ => ⟨fun c => absurd c n3, fun _ => ⟨fun c => absurd c n4, fun _ => ⟨fun c => absurd c n5, fun _ => ⟨fun c => absurd c n6, fun _ => ⟨fun c => absurd c n7, fun _ => ⟨fun c => absurd c n8, fun _ => ⟨fun c => absurd c n9, fun _ => ⟨fun _ => ?_, fun c => absurd n10 c⟩⟩⟩⟩⟩⟩⟩⟩⟩⟩⟩
    exact ⟨fun c => absurd c n0, fun _ => ⟨fun c => absurd c n1, fun _ => ⟨fun c => absurd c n2, fun _ => ⟨fun c => absurd c n3, fun _ => ⟨fun c => absurd c n4, fun _ => ⟨fun c => absurd c n5, fun _ => ⟨fun c => absurd c n6, fun _ => ⟨fun c => absurd c n7, fun _ => ⟨fun c => absurd c n8, fun _ => ⟨fun c => absurd c n9, fun _ => ⟨fun _ => hp _, fun c => absurd n10 c⟩⟩⟩⟩⟩⟩⟩⟩⟩⟩⟩
  by_cases n11 : x = 11
  · refine ⟨fun c => absurd c n0, fun _ => ⟨fun c => absurd c n1, fun _ => ⟨fun c => absurd c n2, fun _ => ⟨fun c => absurd c n3, fun _ => ⟨fun c => absurd c n4, fun _ => ⟨fun c => absurd c n5, fun _ => ⟨fun c => absurd c n6, fun _ => ⟨fun c => absurd c n7, fun _ => ⟨fun c => absurd c n8, fun _ => ⟨fun c => absurd c n9, fun _ => ⟨fun c => absurd c n10, fun _ => ⟨fun _ => ?_, fun c => absurd n11 c⟩⟩⟩⟩⟩⟩⟩⟩⟩⟩⟩⟩
    exact ⟨fun c => absurd c n0, fun _ => ⟨fun c => absurd c n1, fun _ => ⟨fun c => absurd c n2, fun _ => ⟨fun c => absurd c n3, fun _ => ⟨fun c => absurd c n4, fun _ => ⟨fun c => absurd c n5, fun _ => ⟨fun c => absurd c n6, fun _ => ⟨fun c => absurd c n7, fun _ => ⟨fun c => absurd c n8, fun _ => ⟨fun c => absurd c n9, fun _ => ⟨fun c => absurd c n10, fun _ => ⟨fun _ => hp _, fun c => absurd n11 c⟩⟩⟩⟩⟩⟩⟩⟩⟩⟩⟩⟩
  refine ⟨fun c => absurd c n0, fun _ => ⟨fun c => absurd c n1, fun _ => ⟨fun c => absurd c n2, fun _ => ⟨fun c => absurd c n3, fun _ => ⟨fun c => absurd c n4, fun _ => ⟨fun c => absurd c n5, fun _ => ⟨fun c => absurd c n6, fun _ => ⟨fun c => absurd c n7, fun _ => ⟨fun c => absurd c n8, fun _ => ⟨fun c => absurd c n9, fun _ => ⟨fun c => absurd c n10, fun _ => ⟨fun c => absurd c n11, fun _ => ?_⟩⟩⟩⟩⟩⟩⟩⟩⟩⟩⟩⟩
  exact ⟨fun c => absurd c n0, fun _ => ⟨fun c => absurd c n1, fun _ => ⟨fun c => absurd c n2, fun _ => ⟨fun c => absurd c n3, fun _ => ⟨fun c => absurd c n4, fun _ => ⟨fun c => absurd c n5, fun _ => ⟨fun c => absurd c n6, fun _ => ⟨fun c => absurd c n7, fun _ => ⟨fun c => absurd c n8, fun _ => ⟨fun c => absurd c n9, fun _ => ⟨fun c => absurd c n10, fun _ => ⟨fun c => absurd c n11, fun _ => hp _⟩⟩⟩⟩⟩⟩⟩⟩⟩⟩⟩⟩
/-! rows judged -/
def cz_jd (ns : Nat) (K : Nat → Nat → Nat) (np : Nat) (Pa Pb : Nat → Nat) (nb : Nat) (Wd L : Nat → Nat) (x : Int32) : Nat → Nat → Nat → Int32
  | 0, _, _ => if x = 0 then -1 else 0
  | k + 1, i, set => if cz_why ns K np Pa Pb nb Wd i (L i) set = 0 then cz_jd ns K np Pa Pb nb Wd L x k (i + 1) (set ||| 2 ^ L i) else if x = 0 then nI i else nI (cz_why ns K np Pa Pb nb Wd i (L i) set)
theorem s_X4_judge {L : Nat → Nat} {x : Int32} {lm : Nat} {xl : Nat → Int32} {post : Int32 → Prop} (hs : cz_S ns K np Pa Pb nb so Wd xs xp xb xs2 xc xk xw xt xh xf xa xv ms mj mo mp mst mpr mwd) (hlm : lm ≤ 8) (hL : ∀ i, i < lm → L i < ns ∧ xl i = nI (L i)) : ∀ (k i set : Nat), i + k = lm → set < 256 → post (cz_jd ns K np Pa Pb nb Wd L x k i set) → mx_l2 (f_X4_judge_16 (nI lm) xl xs xw xf xb xk xc xa xt xv post x) (k + 1) (nI set) (nI i) := by
  have hn8 := hs.1.1
  intro k
  induction k with
  | zero =>
    intro i set hi hset hp
    refine ⟨fun _ => ⟨fun c => ?_, fun c => ?_⟩, fun c => absurd (nI_le (by omega) (by omega)) c⟩
    · rw [cz_jd, if_neg c] at hp; exact hp
    · rw [cz_jd, if_pos c] at hp; exact hp
  | succ k ih =>
    intro i set hi hset hp
    obtain ⟨l1, l2⟩ := hL i (by omega)
    have hwl := cz_why_lt (ns := ns) (np := np) (nb := nb) (K := K) (Pa := Pa) (Pb := Pb) (Wd := Wd) i (L i) set
    have e9 : nI (cz_why ns K np Pa Pb nb Wd i (L i) set) = 0 ↔ cz_why ns K np Pa Pb nb Wd i (L i) set = 0 := nI_eq0 (by omega)
    refine ⟨fun c => absurd c (nI_ge (by omega) (by omega)), fun _ => ⟨vp_in_nI (by omega) (by omega), ?_⟩⟩
    rw [nI_clamp (by omega), l2]
    refine s_whyNotOn hs (by omega) hset l1 ⟨fun c => ⟨vp_in_nI (by omega) (by omega), ?_⟩, fun c => ⟨fun c2 => ?_, fun c2 => ?_⟩⟩
    · rw [pz_or set hset _ (by omega), nI_1]
      rw [cz_jd, if_pos (e9.mp c)] at hp
      exact ih (i + 1) _ (by omega) (pz_or_lt set hset _ (by omega)) hp
    · rw [cz_jd, if_neg (fun z => c (e9.mpr z)), if_neg c2] at hp; exact hp
    · rw [cz_jd, if_neg (fun z => c (e9.mpr z)), if_pos c2] at hp; exact hp
theorem s_X5_judge {L : Nat → Nat} {x : Int32} {lm : Nat} {ml : Nat → Int32} {post : Int32 → Prop} (hs : cz_S ns K np Pa Pb nb so Wd xs xp xb xs2 xc xk xw xt xh xf xa xv ms mj mo mp mst mpr mwd) (hlm : lm ≤ 8) (hL : ∀ i, i < lm → L i < ns ∧ ml i = nI (L i)) : ∀ (k i set : Nat), i + k = lm → set < 256 → post (cz_jd ns K np Pa Pb nb Wd L x k i set) → mx_l2 (f_X5_judge_16 (nI lm) ml mj ms mst mp mpr mwd post x) (k + 1) (nI set) (nI i) := by
  have hn8 := hs.1.1
  have ho := hs.1
  have hnb := hs.2.1
  have hWd := hs.2.2.2.1
  obtain ⟨g1, g2, g3, g4⟩ := hs.2.2.2.2.2.2.2.1
  have hM := hs.2.2.2.2.2.2.2.2.1
  have hv2 := hs.2.2.2.2.2.2.2.2.2
  intro k
  induction k with
  | zero =>
    intro i set hi hset hp
    refine ⟨fun _ => ⟨fun c => ?_, fun c => ?_⟩, fun c => absurd (nI_le (by omega) (by omega)) c⟩
    · rw [cz_jd, if_neg c] at hp; exact hp
    · rw [cz_jd, if_pos c] at hp; exact hp
  | succ k ih =>
    intro i set hi hset hp
    obtain ⟨l1, l2⟩ := hL i (by omega)
    have hpl := pz_why_le ns K np Pa Pb (L i) set nb
    have hw9 : cz_wind Wd i ≤ 9 := by unfold cz_wind; split; · exact hWd _ (by assumption)
                                      · omega
    have wcase : ∀ w : Nat, w ≤ 5 → cz_why ns K np Pa Pb nb Wd i (L i) set = w → f_X5_judge_62 (nI lm) ml mj ms mst mp mpr mwd (mx_l2 (f_X5_judge_16 (nI lm) ml mj ms mst mp mpr mwd post x) (k + 1)) post x (nI set) (nI i) (nI w) := by
      intro w hw ew
      have e9 : nI w = 0 ↔ w = 0 := nI_eq0 (by omega)
      refine ⟨fun c => ⟨vp_in_nI (by omega) (by omega), ?_⟩, fun c => ⟨fun c2 => ?_, fun c2 => ?_⟩⟩
      · rw [nI_clamp (by omega), l2, pz_or set hset _ (by omega), nI_1]
        rw [cz_jd, ew, if_pos (e9.mp c)] at hp
        exact ih (i + 1) _ (by omega) (pz_or_lt set hset _ (by omega)) hp
      · rw [cz_jd, ew, if_neg (fun z => c (e9.mpr z)), if_neg c2] at hp; exact hp
      · rw [cz_jd, ew, if_neg (fun z => c (e9.mpr z)), if_pos c2] at hp; exact hp
    refine ⟨fun c => absurd c (nI_ge (by omega) (by omega)), fun _ => ⟨vp_in_nI (by omega) (by omega), ?_⟩⟩
    rw [nI_clamp (by omega), l2]
    have w1 := wcase
    rw [g1, g2, g4] at w1 ⊢
    have e9 : nI (pz_why ns K np Pa Pb (L i) set nb) = 0 ↔ pz_why ns K np Pa Pb (L i) set nb = 0 := nI_eq0 (by omega)
    refine s_X5_whyBy ho hM hset l1 (by omega) ⟨fun c => ?_, fun c => s_X5_windOf (by omega) hv2 ⟨fun c2 => ?_, fun c2 => ?_⟩⟩
    · exact w1 _ (by omega) (by rw [cz_why, if_neg (fun z => c (e9.mpr z.1))])
    · exact w1 _ (by omega) (by rw [cz_why, if_neg (fun z => c2 (by rw [z.2]; rfl))])
    · exact w1 5 (by omega) (by rw [cz_why, if_pos ⟨e9.mp c, (nI_eqn 9 (by omega) (by omega)).mp c2⟩])
theorem j_judge {x : Int32} {xm mm : Int32} {xl mrow : Nat → Int32} {post : Int32 → Int32 → Prop} (hs : cz_S ns K np Pa Pb nb so Wd xs xp xb xs2 xc xk xw xt xh xf xa xv ms mj mo mp mst mpr mwd) (hr : cz_R ns xm xl mm mrow) (hp : ∀ r, post r r) : f_X4_judge xm xl xs xw xf xb xk xc xa xt xv x (fun r => f_X5_judge mm mrow mj ms mst mp mpr mwd x (fun r2 => post r r2)) := by
  obtain ⟨lm, hl, rfl, rfl, hrow⟩ := hr
  obtain ⟨L, hL⟩ : ∃ L : Nat → Nat, ∀ i, i < lm → L i < ns ∧ xl i = nI (L i) ∧ mrow i = nI (L i) := by
    refine ⟨fun i => if h : i < lm then (hrow i h).choose else 0, fun i hi => ?_⟩
    simp only [hi, dif_pos]
    exact (hrow i hi).choose_spec
  refine ⟨fun c => ?_, fun c => ⟨fun c2 => ?_, fun c2 => ?_⟩⟩
  · exact ⟨fun _ => ⟨fun c3 => absurd rfl c3, fun _ => hp _⟩, fun c3 => absurd c c3⟩
  · refine ⟨lm + 1, s_X4_judge hs hl (fun i hi => ⟨(hL i hi).1, (hL i hi).2.1⟩) lm 0 0 (by omega) (by omega) ?_⟩
    refine ⟨fun c3 => absurd c3 c, fun _ => ⟨fun c3 => absurd c2 (Int32.not_le.mpr c3), fun _ => ⟨fun _ => ⟨lm + 1, s_X5_judge hs hl (fun i hi => ⟨(hL i hi).1, (hL i hi).2.2⟩) lm 0 0 (by omega) (by omega) (hp _)⟩, fun c3 => absurd c3 (by decide)⟩⟩⟩
  · exact ⟨fun c3 => absurd c3 c, fun _ => ⟨fun _ => ⟨fun c3 => absurd rfl c3, fun _ => hp _⟩, fun c3 => absurd (Int32.not_le.mp c2) c3⟩⟩
end CP
