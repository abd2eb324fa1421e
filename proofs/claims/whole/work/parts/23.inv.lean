/-! the picture of both sides -/
/-- the site, as told: class and model -/
def cz_S (ns : Nat) (K : Nat → Nat → Nat) (np : Nat) (Pa Pb : Nat → Nat) (nb so : Nat) (Wd : Nat → Nat) (xs xp xb xo xc : Int32) (xk xw xt xh xf xa xv : Nat → Int32) (ms mj mo mp : Int32) (mst mpr mwd : Nat → Int32) : Prop :=
  pz_ok ns K np Pa Pb ∧ nb ≤ 999 ∧ (1 ≤ so ∧ so ≤ 99) ∧ (∀ d, d < 40 → Wd d ≤ 9) ∧ (xs = nI ns ∧ xp = nI np ∧ xb = nI nb ∧ xo = nI so) ∧ pz_X ns K np Pa Pb xc xk xw xt xh xf xa ∧ (∀ d, d < 40 → xv d = nI (Wd d)) ∧ (ms = nI ns ∧ mj = nI nb ∧ mo = nI so ∧ mp = nI np) ∧ pz_M ns K np Pa Pb mst mpr ∧ (∀ d, d < 40 → mwd d = nI (Wd d))
/-- a tower: n storeys O, day d; the class's numbers and row, the model's row from b on -/
def cz_W (ns n d : Nat) (O : Nat → Nat) (xn xd : Int32) (xo : Nat → Int32) (mr : Nat → Int32) (b : Nat) : Prop :=
  n ≤ ns ∧ d ≤ 9999 ∧ xn = nI n ∧ xd = nI d ∧ mr b = nI n ∧ mr (b + 1) = nI d ∧ (∀ i, i < n → O i < ns ∧ xo i = nI (O i) ∧ mr (b + 2 + i) = nI (O i)) ∧ (∀ i j, i < n → j < n → O i = O j → i = j)
def cz_K1 (ns : Nat) (xk mk : Int32) (xn xd : Int32) (xo : Nat → Int32) (mi : Nat → Int32) (b : Nat) : Prop :=
  (xk = 0 ∧ mk = 0) ∨ (xk = 1 ∧ mk = 1 ∧ ∃ n d O, cz_W ns n d O xn xd xo mi b)
def cz_K (ns : Nat) (xk mk : Nat → Int32) (an ad : Int32) (ao : Nat → Int32) (bn bd : Int32) (bo : Nat → Int32) (mi : Nat → Int32) : Prop :=
  cz_K1 ns (xk 0) (mk 0) an ad ao mi 0 ∧ cz_K1 ns (xk 1) (mk 1) bn bd bo mi 10
def cz_R (ns : Nat) (xm : Int32) (xl : Nat → Int32) (mm : Int32) (mr : Nat → Int32) : Prop :=
  ∃ lm, lm ≤ 8 ∧ xm = nI lm ∧ mm = nI lm ∧ ∀ i, i < lm → ∃ s, s < ns ∧ xl i = nI s ∧ mr i = nI s
def cz_N (n : Nat) (xm : Int32) (xa xi : Nat → Int32) (mm : Int32) (mr : Nat → Int32) : Prop :=
  ∃ sm, sm ≤ 8 ∧ xm = nI sm ∧ mm = nI sm ∧ ∀ i, i < sm → ∃ a g, a < n ∧ g ≤ 999 ∧ xa i = nI a ∧ xi i = nI g ∧ mr (2 * i) = nI a ∧ mr (2 * i + 1) = nI g
def cz_T (xl : Int32) (xb : Nat → Int32) (ml : Int32) (mt : Nat → Int32) : Prop :=
  ∃ tl, tl ≤ 200 ∧ xl = nI tl ∧ ml = nI tl ∧ ∀ j, j < tl → ∃ c, c < 256 ∧ xb j = nI c ∧ mt j = nI c
/-! which storey -/
theorem cz_ix (x : Int32) {ns : Nat} (hn : ns ≤ 8) : (∃ j, j < ns ∧ x = nI j) ∨ (∀ j, j < ns → x ≠ nI j) := by
  by_cases h : ∃ j, j < ns ∧ x = nI j
  · exact Or.inl h
  · exact Or.inr (fun j hj e => h ⟨j, hj, e⟩)
theorem s_has_t {ns j : Nat} {post : Int32 → Prop} (hn : ns ≤ 8) (hj : j < ns) (hp : post 1) : f_X1_has (nI ns) (nI j) post :=
  ⟨fun c => absurd c (nI_pos (by omega)), fun _ => ⟨fun c => absurd c (nI_ge hj (by omega)), fun _ => hp⟩⟩
theorem s_has_f {ns : Nat} {x : Int32} {post : Int32 → Prop} (hn : ns ≤ 8) (hj : ∀ j, j < ns → x ≠ nI j) (hp : post 0) : f_X1_has (nI ns) x post := by
  refine ⟨fun _ => hp, fun c => ⟨fun _ => hp, fun c2 => ?_⟩⟩
  obtain ⟨j, h1, rfl⟩ := nI_of c
  exact absurd rfl (hj j (by rcases Nat.lt_or_ge j ns with h | h; · exact h
                             · exact absurd (nI_le h h1) c2))
theorem nI_m1 {n : Nat} (h : n < 2 ^ 30) : (nI n - 1).toInt = (n : Int) - 1 := pk_sub_toInt (b := 1) h (by omega)
theorem s_st_t {ns j : Nat} {post : Int32 → Prop} (hn : ns ≤ 8) (hj : j < ns) (hp : post 1) : f_X5_isStorey (nI ns) (nI j) post := by
  refine ⟨fun c => absurd c (nI_pos (by omega)), fun _ => ⟨fun c => ?_, fun _ => ⟨Or.inr rfl, hp⟩⟩⟩
  rw [Int32.lt_iff_toInt_lt, nI_m1 (by omega), nI_toInt (by omega)] at c
  omega
theorem s_st_f {ns : Nat} {x : Int32} {post : Int32 → Prop} (hn : ns ≤ 8) (hj : ∀ j, j < ns → x ≠ nI j) (hp : post 0) : f_X5_isStorey (nI ns) x post := by
  refine ⟨fun _ => ⟨Or.inl rfl, hp⟩, fun c => ⟨fun _ => ⟨Or.inl rfl, hp⟩, fun c2 => ?_⟩⟩
  obtain ⟨j, h1, rfl⟩ := nI_of c
  rw [Int32.lt_iff_toInt_lt, nI_m1 (by omega), nI_toInt h1] at c2
  exact absurd rfl (hj j (by omega))
/-! the set of what is up -/
def cz_up (O : Nat → Nat) : Nat → Nat
  | 0 => 0
  | n + 1 => cz_up O n ||| 2 ^ O n
theorem cz_up_lt {O : Nat → Nat} : ∀ {n : Nat}, (∀ i, i < n → O i < 8) → cz_up O n < 256
  | 0, _ => by simp [cz_up]
  | n + 1, h => pz_or_lt _ (cz_up_lt (fun i hi => h i (by omega))) _ (h n (by omega))
theorem cz_up_bit {O : Nat → Nat} : ∀ {n : Nat} (i : Nat), (cz_up O n).testBit i = true ↔ ∃ k, k < n ∧ O k = i
  | 0, i => by simp [cz_up]
  | n + 1, i => by
    rw [cz_up, pz_tb_or, Bool.or_eq_true, cz_up_bit i, decide_eq_true_eq]
    constructor
    · rintro (⟨k, h1, h2⟩ | h)
      · exact ⟨k, by omega, h2⟩
      · exact ⟨n, by omega, h⟩
    · rintro ⟨k, h1, h2⟩
      rcases Nat.lt_or_ge k n with h | h
      · exact Or.inl ⟨k, h, h2⟩
      · exact Or.inr (by rw [← h2, show k = n by omega])
section CZ
variable {ns n d : Nat} {O : Nat → Nat} {xn xd : Int32} {xo mr : Nat → Int32} {b : Nat}
theorem cz_W.o8 (h : cz_W ns n d O xn xd xo mr b) (hn : ns ≤ 8) : ∀ i, i < n → O i < 8 := fun i hi => by have := (h.2.2.2.2.2.2.1 i hi).1; omega
theorem s_firstOnes {k : Nat} {post : Int32 → Prop} (hw : cz_W ns n d O xn xd xo mr b) (hn : ns ≤ 8) (hk : k ≤ n) (hp : post (nI (cz_up O k))) : f_X3_firstOnes (nI n) xo (nI k) post := by
  have hn8 := hw.1
  have o8 := hw.o8 hn
  have key : ∀ z i, i + z = k → mx_l2 (f_X3_firstOnes_4 (nI n) xo post (nI k)) (z + 1) (nI (cz_up O i)) (nI i) := by
    intro z
    induction z with
    | zero =>
      intro i hi
      refine ⟨fun _ => ?_, fun c => absurd (nI_le (by omega) (by omega)) c⟩
      rw [show i = k by omega]; exact hp
    | succ z ih =>
      intro i hi
      refine ⟨fun c => absurd c (nI_ge (by omega) (by omega)), fun _ => ⟨fun c => absurd c (nI_ge (by omega) (by omega)), fun _ => ⟨vp_in_nI (by omega) (by omega), ?_⟩⟩⟩
      rw [nI_clamp (by omega), (hw.2.2.2.2.2.2.1 i (by omega)).2.1, pz_or _ (cz_up_lt (fun j hj => o8 j (by omega))) _ (o8 i (by omega)), nI_1]
      exact ih (i + 1) (by omega)
  exact ⟨k + 1, key k 0 (by omega)⟩
theorem s_set {post : Int32 → Prop} (hw : cz_W ns n d O xn xd xo mr b) (hn : ns ≤ 8) (hp : post (nI (cz_up O n))) : f_X3_set xn xo post := by
  rw [hw.2.2.1]
  exact s_firstOnes hw hn (Nat.le_refl n) hp
theorem s_upSet {post : Int32 → Prop} (hw : cz_W ns n d O xn xd xo mr 0) (hn : ns ≤ 8) (hp : post (nI (cz_up O n))) : f_X5_upSet mr post := by
  have hn8 := hw.1
  have o8 := hw.o8 hn
  have key : ∀ z i, i + z = n → mx_l2 (f_X5_upSet_4 mr post) (z + 1) (nI (cz_up O i)) (nI i) := by
    intro z
    induction z with
    | zero =>
      intro i hi
      refine ⟨vp_in_nI (n := 0) (by omega) (by omega), ?_⟩
      rw [ix_0, hw.2.2.2.2.1]
      refine ⟨fun _ => ?_, fun c => absurd (nI_le (by omega) (by omega)) c⟩
      rw [show i = n by omega]; exact hp
    | succ z ih =>
      intro i hi
      refine ⟨vp_in_nI (n := 0) (by omega) (by omega), ?_⟩
      rw [ix_0, hw.2.2.2.2.1]
      refine ⟨fun c => absurd c (nI_ge (by omega) (by omega)), fun _ => ?_⟩
      rw [ix_2p, nI_clamp (by omega), show mr (2 + i) = nI (O i) from by have := (hw.2.2.2.2.2.2.1 i (by omega)).2.2; rw [show 0 + 2 + i = 2 + i by omega] at this; exact this, pz_or _ (cz_up_lt (fun j hj => o8 j (by omega))) _ (o8 i (by omega)), nI_1]
      exact ⟨vp_in_nI (by omega) (by omega), ih (i + 1) (by omega)⟩
  exact ⟨n + 1, key n 0 (by omega)⟩
end CZ
def cz_wind (Wd : Nat → Nat) (d : Nat) : Nat := if d < 40 then Wd d else 0
theorem s_X1_windOf {Wd : Nat → Nat} {wind : Nat → Int32} {d : Nat} {post : Int32 → Prop} (hd : d < 2 ^ 31) (hw : ∀ d, d < 40 → wind d = nI (Wd d)) (hp : post (nI (cz_wind Wd d))) : f_X1_windOf wind (nI d) post := by
  refine ⟨fun c => absurd c (nI_pos hd), fun _ => ⟨fun c => ?_, fun c => ?_⟩⟩
  · have c2 : 40 ≤ d := (nI_leI (a := 40) (by omega) hd).mp c
    rw [cz_wind, if_neg (by omega)] at hp; exact hp
  · have c2 : ¬ 40 ≤ d := fun z => c ((nI_leI (a := 40) (by omega) hd).mpr z)
    rw [cz_wind, if_pos (by omega)] at hp
    rw [nI_clamp hd, hw d (by omega)]
    exact ⟨vp_in_nI (by omega) (by omega), hp⟩
theorem s_X5_windOf {Wd : Nat → Nat} {wind : Nat → Int32} {d : Nat} {post : Int32 → Prop} (hd : d < 2 ^ 31) (hw : ∀ d, d < 40 → wind d = nI (Wd d)) (hp : post (nI (cz_wind Wd d))) : f_X5_windOf wind (nI d) post := by
  refine ⟨fun c => ?_, fun c => ?_⟩
  · have c2 : 40 ≤ d := (nI_leI (a := 40) (by omega) hd).mp c
    rw [cz_wind, if_neg (by omega)] at hp; exact hp
  · have c2 : ¬ 40 ≤ d := fun z => c ((nI_leI (a := 40) (by omega) hd).mpr z)
    rw [cz_wind, if_pos (by omega)] at hp
    rw [nI_clamp hd, hw d (by omega)]
    exact ⟨vp_in_nI (by omega) (by omega), hp⟩
/-- why not, on a day -/
def cz_why (ns : Nat) (K : Nat → Nat → Nat) (np : Nat) (Pa Pb : Nat → Nat) (nb : Nat) (Wd : Nat → Nat) (day s set : Nat) : Nat :=
  if pz_why ns K np Pa Pb s set nb = 0 ∧ cz_wind Wd day = 9 then 5 else pz_why ns K np Pa Pb s set nb
section CZ2
variable {ns np nb so n d : Nat} {K : Nat → Nat → Nat} {Pa Pb Wd O : Nat → Nat} {xs xp xb xs2 xc : Int32} {xk xw xt xh xf xa xv : Nat → Int32} {ms mj mo mp : Int32} {mst mpr mwd : Nat → Int32} {xn xd : Int32} {xo mr : Nat → Int32}
theorem cz_why_lt (day s set : Nat) : cz_why ns K np Pa Pb nb Wd day s set ≤ 5 := by
  unfold cz_why; have := pz_why_le ns K np Pa Pb s set nb; split <;> omega
theorem s_whyNotOn {day s set : Nat} {post : Int32 → Prop} (hs : cz_S ns K np Pa Pb nb so Wd xs xp xb xs2 xc xk xw xt xh xf xa xv ms mj mo mp mst mpr mwd) (hday : day < 2 ^ 31) (hset : set < 256) (hsn : s < ns) (hp : post (nI (cz_why ns K np Pa Pb nb Wd day s set))) : f_X1_whyNotOn xs xw xf xb xk xc xa xt xv (nI day) (nI s) (nI set) post := by
  obtain ⟨ho, hnb, hso, hWd, ⟨e1, e2, e3, e4⟩, hX, hv, -⟩ := hs
  have hl := pz_why_le ns K np Pa Pb s set nb
  rw [e1, e3]
  refine s_X1_load ho hX hset (s_X1_whyNot ho hX hset hsn (by omega) ⟨fun c => ?_, fun c => s_X1_windOf hday hv ⟨fun c2 => ?_, fun c2 => ?_⟩⟩)
  · have c1 : ¬ pz_why ns K np Pa Pb s set nb = 0 := fun z => c ((nI_eq0 (by omega)).mpr z)
    rw [cz_why, if_neg (fun z => c1 z.1)] at hp; exact hp
  · have c1 : ¬ cz_wind Wd day = 9 := fun z => c2 (by rw [z]; rfl)
    rw [cz_why, if_neg (fun z => c1 z.2)] at hp; exact hp
  · have c0 := (nI_eq0 (by omega)).mp c
    have hw9 : cz_wind Wd day ≤ 9 := by unfold cz_wind; split; · exact hWd _ (by assumption)
                                        · omega
    have c1 : cz_wind Wd day = 9 := (nI_eqn 9 (by omega) (by omega)).mp c2
    rw [cz_why, if_pos ⟨c0, c1⟩] at hp; exact hp
theorem s_whyToday {s : Nat} {post : Int32 → Prop} (hs : cz_S ns K np Pa Pb nb so Wd xs xp xb xs2 xc xk xw xt xh xf xa xv ms mj mo mp mst mpr mwd) (hw : cz_W ns n d O xn xd xo mr 0) (hsn : s < ns) (hp : post (nI (cz_why ns K np Pa Pb nb Wd d s (cz_up O n)))) : f_X4_whyNotToday xd xn xo xs xw xf xb xk xc xa xt xv (nI s) post := by
  have hn8 := hs.1.1
  unfold f_X4_whyNotToday
  refine s_set hw hn8 ?_
  rw [hw.2.2.2.1]
  exact s_whyNotOn hs (by have := hw.2.1; omega) (cz_up_lt (hw.o8 hn8)) hsn hp
theorem s_whyNow {s : Nat} {post : Int32 → Prop} (hs : cz_S ns K np Pa Pb nb so Wd xs xp xb xs2 xc xk xw xt xh xf xa xv ms mj mo mp mst mpr mwd) (hw : cz_W ns n d O xn xd xo mr 0) (hsn : s < ns) (hp : post (nI (cz_why ns K np Pa Pb nb Wd d s (cz_up O n)))) : f_X5_whyNow mr mj ms mst mp mpr mwd (nI s) post := by
  obtain ⟨ho, hnb, hso, hWd, -, -, -, ⟨e1, e2, e3, e4⟩, hM, hv⟩ := hs
  have hn8 := ho.1
  have hd := hw.2.1
  have hl := pz_why_le ns K np Pa Pb s (cz_up O n) nb
  rw [e1, e2, e4]
  refine s_upSet hw hn8 (s_X5_whyBy ho hM (cz_up_lt (hw.o8 hn8)) hsn (by omega) ⟨fun c => ?_, fun c => ⟨vp_in_nI (n := 1) (by omega) (by omega), ?_⟩⟩)
  · have c1 : ¬ pz_why ns K np Pa Pb s (cz_up O n) nb = 0 := fun z => c ((nI_eq0 (by omega)).mpr z)
    rw [cz_why, if_neg (fun z => c1 z.1)] at hp; exact hp
  · rw [ix_1, show mr 1 = nI d from hw.2.2.2.2.2.1]
    refine s_X5_windOf (by omega) hv ⟨fun c2 => ?_, fun c2 => ?_⟩
    · have c1 : ¬ cz_wind Wd d = 9 := fun z => c2 (by rw [z]; rfl)
      rw [cz_why, if_neg (fun z => c1 z.2)] at hp; exact hp
    · have c0 := (nI_eq0 (by omega)).mp c
      have hw9 : cz_wind Wd d ≤ 9 := by unfold cz_wind; split; · exact hWd _ (by assumption)
                                        · omega
      have c1 : cz_wind Wd d = 9 := (nI_eqn 9 (by omega) (by omega)).mp c2
      rw [cz_why, if_pos ⟨c0, c1⟩] at hp; exact hp
/-- both sides' why -/
theorem j_why {x : Int32} {post : Int32 → Int32 → Prop} (hs : cz_S ns K np Pa Pb nb so Wd xs xp xb xs2 xc xk xw xt xh xf xa xv ms mj mo mp mst mpr mwd) (hw : cz_W ns n d O xn xd xo mr 0) (hp : ∀ r, post r r) : f_X4_why xs xd xn xo xw xf xb xk xc xa xt xv x (fun r => f_X5_why ms mr mj mst mp mpr mwd x (fun r2 => post r r2)) := by
  have hn8 := hs.1.1
  obtain ⟨e1, -⟩ := hs.2.2.2.2.1
  obtain ⟨g1, -⟩ := hs.2.2.2.2.2.2.2.1
  unfold f_X4_why f_X5_why
  rcases cz_ix x hn8 with ⟨j, hj, rfl⟩ | hx
  · rw [e1]
    refine s_has_t hn8 hj ⟨fun c => absurd c (by decide), fun _ => ?_⟩
    rw [← e1]
    refine s_whyToday hs hw hj ?_
    show f_X5_isStorey _ _ _
    rw [g1]
    refine s_st_t hn8 hj ⟨fun c => absurd c (by decide), fun _ => ?_⟩
    rw [← g1]
    exact s_whyNow hs hw hj (hp _)
  · rw [e1]
    refine s_has_f hn8 hx ⟨fun _ => ?_, fun c => absurd rfl c⟩
    rw [g1]
    exact s_st_f hn8 hx ⟨fun _ => hp _, fun c => absurd rfl c⟩
end CZ2
