section FU
variable {ns np nb so n d : Nat} {K : Nat → Nat → Nat} {Pa Pb Wd O : Nat → Nat} {xs xp xb xs2 xc : Int32} {xk xw xt xh xf xa xv : Nat → Int32} {ms mj mo mp : Int32} {mst mpr mwd : Nat → Int32} {xn xd : Int32} {xo mr : Nat → Int32}
theorem s_areSo {j w sm : Nat} {A G : Nat → Nat} {sg st : Nat → Int32} {post : Int32 → Prop} (ho : pz_ok ns K np Pa Pb) (hso : 1 ≤ so ∧ so ≤ 99) (hw : cz_W ns n d O xn xd xo mr 0) (hj : j < ns) (hw99 : w ≤ 99) (hsm : sm ≤ 8) (hN : ∀ i, i < sm → A i < n ∧ G i ≤ 999 ∧ sg (2 * i) = nI (A i) ∧ sg (2 * i + 1) = nI (G i))
    (hst : ∀ s, s < ns → st (5 * s + 1) = nI (ft_K K j w s 1) ∧ st (5 * s + 4) = nI (ft_K K j w s 4)) (h1 : ft_A K O so A G j sm w → post 1) (h0 : ¬ ft_A K O so A G j sm w → post 0) : f_X5_areSo (nI sm) sg (nI so) mr st post := by
  have hn8 := ho.1
  have hn := hw.1
  have hO : ∀ i, i < n → O i < ns ∧ mr (2 + i) = nI (O i) := fun i hi => by
    have := (hw.2.2.2.2.2.2.1 i hi).2.2; rw [show 0 + 2 + i = 2 + i by omega] at this; exact ⟨(hw.2.2.2.2.2.2.1 i hi).1, this⟩
  have hb : ∀ a, a ≤ n → ft_ld (ft_K K j w) O a ≤ a * 198 := by
    intro a
    induction a with
    | zero => intro _; exact Nat.le_refl _
    | succ a ih =>
      intro h
      have h2 := ih (by omega)
      have h3 := ho.2.2.1 (O a) (hO a (by omega)).1
      have h4 : ft_K K j w (O a) 1 ≤ 99 := by unfold ft_K; split <;> omega
      have h5 : ft_K K j w (O a) 4 ≤ 99 := by unfold ft_K; rw [if_neg (by omega)]; omega
      rw [ft_ld, Nat.succ_mul]
      omega
  have key : ∀ z k x1, k + z = sm → ((x1 = 1 ∧ ft_A K O so A G j k w) ∨ (x1 = 0 ∧ ¬ ft_A K O so A G j sm w)) → mx_l2 (f_X5_areSo_4 (nI sm) sg (nI so) mr st post) (z + 1) x1 (nI k) := by
    intro z
    induction z with
    | zero =>
      intro k x1 hk hx
      refine ⟨fun _ => ?_, fun c => absurd (nI_le (by omega) (by omega)) c⟩
      rcases hx with ⟨e, h⟩ | ⟨e, h⟩
      · subst e; rw [show k = sm by omega] at h; exact ⟨Or.inr rfl, h1 h⟩
      · subst e; exact ⟨Or.inl rfl, h0 h⟩
    | succ z ih =>
      intro k x1 hk hx
      obtain ⟨n1, n2, n3, n4⟩ := hN k (by omega)
      refine ⟨fun c => absurd c (nI_ge (by omega) (by omega)), fun _ => ?_⟩
      have inner : ∀ y i, i + y = A k → mx_l2 (f_X5_areSo_17 (nI sm) sg (nI so) mr st (mx_l2 (f_X5_areSo_4 (nI sm) sg (nI so) mr st post) (z + 1)) post x1 (nI k)) (y + 1) (nI (ft_ld (ft_K K j w) O i)) (nI i) := by
        intro y
        induction y with
        | zero =>
          intro i hi
          have hl := hb i (by omega)
          show vp_in _ _ ∧ _
          rw [ix_2, nI_clamp (by omega), n3]
          refine ⟨vp_in_nI (by omega) (by omega), fun _ => ?_, fun c => absurd (nI_le (by omega) (by omega)) c⟩
          unfold f_X5_areSo_52
          rw [ix_2, nI_1, nI_1, nI_clamp (by omega), n4, pk_div (by omega) (by omega) (by omega), show i = A k by omega]
          have hdl : ft_ld (ft_K K j w) O (A k) / so ≤ ft_ld (ft_K K j w) O (A k) := Nat.div_le_self _ _
          rw [show i = A k by omega] at hl
          rw [nI_eq (by omega) (by omega)]
          rcases hx with ⟨e, h⟩ | ⟨e, h⟩
          · subst e
            refine ⟨fun c => absurd c (by decide), fun _ => ⟨fun c => absurd ((nI_eq0 (by omega)).mp c) (by omega), vp_in_nI (by omega) (by omega), fun c => ih (k + 1) 0 (by omega) (Or.inr ⟨rfl, fun z => c (z k (by omega))⟩), fun c => ih (k + 1) 1 (by omega) (Or.inl ⟨rfl, fun t ht => ?_⟩)⟩⟩
            rcases Nat.lt_or_ge t k with h2 | h2
            · exact h t h2
            · rw [show t = k by omega]; exact c
          · subst e
            exact ⟨fun _ => ih (k + 1) 0 (by omega) (Or.inr ⟨rfl, h⟩), fun c => absurd rfl c⟩
        | succ y ih2 =>
          intro i hi
          obtain ⟨q1, q2⟩ := hO i (by omega)
          obtain ⟨r1, r2⟩ := hst (O i) q1
          show vp_in _ _ ∧ _
          rw [ix_2, nI_clamp (by omega), n3]
          refine ⟨vp_in_nI (by omega) (by omega), fun c => absurd c (nI_ge (by omega) (by omega)), fun _ => ?_⟩
          unfold f_X5_loadOf
          rw [ix_2p, nI_clamp (by omega), q2, ix_5, nI_1, ix_p4, nI_clamp (by omega), nI_clamp (by omega), r1, r2, nI_add]
          refine ⟨vp_in_nI (by omega) (by omega), vp_in_nI (by omega) (by omega), vp_in_nI (by omega) (by omega), ?_⟩
          show mx_l2 _ _ (_ + _) (_ + _)
          rw [nI_add, nI_1]
          exact ih2 (i + 1) (by omega)
      exact ⟨_, inner (A k) 0 (by omega)⟩
  exact ⟨sm + 1, key sm 0 1 (by omega) (Or.inl ⟨rfl, fun t ht => absurd ht (by omega)⟩)⟩
theorem s_X5_fits {j sm : Nat} {A G : Nat → Nat} {sg : Nat → Int32} {x2 : Int32} {l g : Int} {post : Int32 → (Nat → Int32) → Prop} (ho : pz_ok ns K np Pa Pb) (hM : pz_M ns K np Pa Pb mst mpr) (hso : 1 ≤ so ∧ so ≤ 99) (hw : cz_W ns n d O xn xd xo mr 0) (hj : j < ns) (hsm : sm ≤ 8) (hN : ∀ i, i < sm → A i < n ∧ G i ≤ 999 ∧ sg (2 * i) = nI (A i) ∧ sg (2 * i + 1) = nI (G i))
    (l1 : 1 ≤ l) (g1 : g ≤ 99) (hA : ∀ w : Nat, 1 ≤ w → w ≤ 99 → ((l ≤ w ∧ w ≤ g) ↔ ft_A K O so A G j sm w)) (hp : post (ft_v x2 l g) mst) : ∀ (z w : Nat) (x4 x5 x6 : Int32) (st : Nat → Int32), w + z = 100 → 1 ≤ w → (∀ q, q ≠ 5 * j + 1 → st q = mst q) → ((l ≤ g ∧ l < w) → x4 = nI (min ((w : Int) - 1) g - l + 1).toNat ∧ x5 = nI l.toNat ∧ x6 = nI (min ((w : Int) - 1) g).toNat) → (¬ (l ≤ g ∧ l < w) → x4 = 0 ∧ x5 = -1 ∧ x6 = -1) → mx_l5 (f_X5_fits_46 (nI ns) (nI sm) sg (nI so) mr post (nI j) x2 (mst (5 * j + 1))) (z + 1) x4 x5 x6 (nI w) st := by
  have hn8 := ho.1
  intro z
  induction z with
  | zero =>
    intro w x4 x5 x6 st hz w1 hst ha hb
    have hw100 : w = 100 := by omega
    subst hw100
    refine ⟨fun _ => ?_, fun c => absurd (nI_le (a := 100) (by omega) (by omega)) c⟩
    unfold f_X5_fits_100
    have es : upd st (5 * j + 1) (mst (5 * j + 1)) = mst := by
      funext q
      by_cases h : q = 5 * j + 1
      · subst h; exact pk_us
      · rw [pk_un h]; exact hst q h
    rw [ix_5, nI_1, nI_clamp (by omega), es]
    refine ⟨vp_in_nI (by omega) (by omega), ?_⟩
    unfold ft_v at hp
    by_cases hlg : l ≤ g
    · obtain ⟨e4, e5, e6⟩ := ha ⟨hlg, by omega⟩
      rw [show min (((100 : Nat) : Int) - 1) g = g by omega] at e4 e6
      rw [e4, e5, e6]
      rw [if_pos hlg] at hp
      refine ⟨fun c => ⟨fun c2 => ?_, fun c2 => ?_⟩, fun c => ?_⟩
      · rw [if_neg c, if_neg c2] at hp; exact hp
      · rw [if_neg c, if_pos c2] at hp; exact hp
      · rw [if_pos c] at hp; exact hp
    · obtain ⟨e4, e5, e6⟩ := hb (fun z => hlg z.1)
      rw [e4, e5, e6]
      rw [if_neg hlg] at hp
      refine ⟨fun c => ⟨fun c2 => ?_, fun c2 => ?_⟩, fun c => ?_⟩
      · rw [if_neg c] at hp; exact hp
      · rw [if_neg c] at hp; exact hp
      · rw [if_pos c] at hp; exact hp
  | succ z ih =>
    intro w x4 x5 x6 st hz w1 hst ha hb
    refine ⟨fun c => absurd c (nI_ge (b := 100) (by omega) (by omega)), fun _ => ?_⟩
    rw [ix_5, nI_1, nI_clamp (by omega), nI_1]
    have hst2 : ∀ q, q ≠ 5 * j + 1 → upd st (5 * j + 1) (nI w) q = mst q := fun q hq => by rw [pk_un hq]; exact hst q hq
    have hAw := hA w w1 (by omega)
    refine ⟨vp_in_nI (by omega) (by omega), s_areSo (w := w) ho hso hw hj (by omega) hsm hN (fun s hs => ?_) (fun hh => ⟨fun c => absurd c (by decide), fun _ => ?_⟩) (fun hh => ⟨fun _ => ?_, fun c => absurd rfl c⟩)⟩
    · by_cases h : s = j
      · subst h
        rw [pk_us, pk_un (by omega), hst _ (by omega), hM.1 s hs 4 (by omega)]
        unfold ft_K
        simp
      · rw [pk_un (by omega), pk_un (by omega), hst _ (by omega), hst _ (by omega), hM.1 s hs 1 (by omega), hM.1 s hs 4 (by omega)]
        unfold ft_K
        simp [h]
    · obtain ⟨c1, c2⟩ := hAw.mpr hh
      unfold f_X5_fits_88
      by_cases hlw : l < w
      · obtain ⟨e4, e5, e6⟩ := ha ⟨by omega, hlw⟩
        refine ⟨fun _ => ?_, fun c => absurd c (by rw [e5]; exact nI_nm1 (by omega))⟩
        rw [nI_1]
        refine ih (w + 1) _ _ _ _ (by omega) (by omega) hst2 (fun _ => ⟨?_, e5, ?_⟩) (fun z => absurd ⟨by omega, by omega⟩ z)
        · rw [e4, nI_1]; congr 1; omega
        · congr 1; omega
      · obtain ⟨e4, e5, e6⟩ := hb (fun z => hlw z.2)
        refine ⟨fun c => absurd e5 c, fun _ => ?_⟩
        rw [nI_1]
        refine ih (w + 1) _ _ _ _ (by omega) (by omega) hst2 (fun _ => ⟨?_, ?_, ?_⟩) (fun z => absurd ⟨by omega, by omega⟩ z)
        · rw [e4, show (0 : Int32) + 1 = nI 1 from rfl]; congr 1; omega
        · congr 1; omega
        · congr 1; omega
    · have hno : ¬ (l ≤ w ∧ w ≤ g) := fun z => hh (hAw.mp z)
      refine ih (w + 1) _ _ _ _ (by omega) (by omega) hst2 (fun c => ?_) (fun c => hb (fun z => c ⟨z.1, by omega⟩))
      obtain ⟨e4, e5, e6⟩ := ha ⟨c.1, by omega⟩
      exact ⟨by rw [e4]; congr 1; omega, e5, by rw [e6]; congr 1; omega⟩
theorem j_fits {x y : Int32} {sX mm : Int32} {xat xin msg : Nat → Int32} {post : Int32 → Int32 → (Nat → Int32) → Prop} (hs : cz_S ns K np Pa Pb nb so Wd xs xp xb xs2 xc xk xw xt xh xf xa xv ms mj mo mp mst mpr mwd) (hw : cz_W ns n d O xn xd xo mr 0) (hn0 : cz_N n sX xat xin mm msg) (hp : ∀ r, post r r mst) : f_X4_fits xs sX xat xn xo xin xs2 xw xf x y (fun r => f_X5_fits ms mm msg mo mr mst x y (fun r2 b => post r r2 b)) := by
  obtain ⟨ho, hnb, hso, hWd, ⟨e1, e2, e3, e4⟩, hX, hv, ⟨g1, g2, g3, g4⟩, hM, -⟩ := hs
  have hn8 := ho.1
  obtain ⟨sm, hsm, rfl, rfl, hrow⟩ := hn0
  obtain ⟨A, hA⟩ : ∃ A : Nat → Nat, ∀ i, i < sm → ∃ g, A i < n ∧ g ≤ 999 ∧ xat i = nI (A i) ∧ xin i = nI g ∧ msg (2 * i) = nI (A i) ∧ msg (2 * i + 1) = nI g := by
    refine ⟨fun i => if h : i < sm then (hrow i h).choose else 0, fun i hi => ?_⟩
    simp only [hi, dif_pos]
    exact (hrow i hi).choose_spec
  obtain ⟨G, hG⟩ : ∃ G : Nat → Nat, ∀ i, i < sm → A i < n ∧ G i ≤ 999 ∧ xat i = nI (A i) ∧ xin i = nI (G i) ∧ msg (2 * i) = nI (A i) ∧ msg (2 * i + 1) = nI (G i) := by
    refine ⟨fun i => if h : i < sm then (hA i h).choose else 0, fun i hi => ?_⟩
    simp only [hi, dif_pos]
    exact (hA i hi).choose_spec
  unfold f_X4_fits
  rw [e1, e4]
  rcases cz_ix x hn8 with ⟨j, hj, rfl⟩ | hx
  · have isw : ∀ {P : Int32 → Prop}, P 1 → f_X5_isStorey ms (nI j) P := fun h => by rw [g1]; exact s_st_t hn8 hj h
    refine s_has_t hn8 hj ⟨fun _ => ⟨fun c => ?_, fun c => ⟨fun c2 => ?_, fun c2 => ?_⟩⟩, fun c => absurd c (by decide)⟩
    · exact isw ⟨fun _ => ⟨fun _ => ⟨fun c3 => absurd rfl c3, fun _ => hp _⟩, fun c3 => absurd c c3⟩, fun c => absurd c (by decide)⟩
    · refine ⟨sm + 1, s_X4_fits ho hso hX hw hj hsm (fun i hi => ⟨(hG i hi).1, (hG i hi).2.1, (hG i hi).2.2.1, (hG i hi).2.2.2.1⟩) (fun l g l1 gg hch => ?_) sm 0 1 99 1 99 (by omega) rfl rfl (by omega) (by omega) (by omega) (by omega) (fun w w1 w2 => ⟨fun _ t ht => absurd ht (by omega), fun _ => by omega⟩)⟩
      refine isw ⟨fun _ => ⟨fun c3 => absurd c3 c, fun _ => ⟨fun c3 => absurd c2 (Int32.not_le.mpr c3), fun _ => ⟨fun _ => ?_, fun c3 => absurd c3 (by decide)⟩⟩⟩, fun c => absurd c (by decide)⟩
      rw [ix_5, nI_1, nI_clamp (by omega), g1, g3]
      exact ⟨vp_in_nI (by omega) (by omega), 100, s_X5_fits ho hM hso hw hj hsm (fun i hi => ⟨(hG i hi).1, (hG i hi).2.1, (hG i hi).2.2.2.2.1, (hG i hi).2.2.2.2.2⟩) l1 gg hch (hp _) 99 1 0 (-1) (-1) mst (by omega) (by omega) (fun q _ => rfl) (fun h => absurd h.2 (by omega)) (fun _ => ⟨rfl, rfl, rfl⟩)⟩
    · exact isw ⟨fun _ => ⟨fun c3 => absurd c3 c, fun _ => ⟨fun _ => ⟨fun c3 => absurd rfl c3, fun _ => hp _⟩, fun c3 => absurd (Int32.not_le.mp c2) c3⟩⟩, fun c => absurd c (by decide)⟩
  · refine s_has_f hn8 hx ⟨fun c => absurd rfl c, fun _ => ?_⟩
    unfold f_X5_fits
    rw [g1]
    exact s_st_f hn8 hx ⟨fun c => absurd rfl c, fun _ => hp _⟩
end FU
