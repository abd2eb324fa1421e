section CR
variable {ns np nb so n d : Nat} {K : Nat → Nat → Nat} {Pa Pb Wd O : Nat → Nat} {xs xp xb xs2 xc : Int32} {xk xw xt xh xf xa xv : Nat → Int32} {ms mj mo mp : Int32} {mst mpr mwd : Nat → Int32} {xn xd : Int32} {xo mr : Nat → Int32}
/-! bytes written -/
theorem cr_byte (z : Int64) : ∃ c, c < 256 ∧ (z &&& 255).toInt32 = nI c ∧ vp_nar .char ((((z &&& 255).toInt32).toUInt32 % 65536).toInt32) = nI c := by
  refine ⟨(z &&& 255).toBitVec.toNat, ?_, ?_, ?_⟩
  · rw [Int64.toBitVec_and, BitVec.toNat_and]
    have : z.toBitVec.toNat &&& (255 : Int64).toBitVec.toNat ≤ (255 : Int64).toBitVec.toNat := Nat.and_le_right
    have h2 : (255 : Int64).toBitVec.toNat = 255 := by decide
    omega
  all_goals
    have hc : (z &&& 255).toBitVec.toNat < 256 := by
      rw [Int64.toBitVec_and, BitVec.toNat_and]
      have : z.toBitVec.toNat &&& (255 : Int64).toBitVec.toNat ≤ (255 : Int64).toBitVec.toNat := Nat.and_le_right
      have h2 : (255 : Int64).toBitVec.toNat = 255 := by decide
      omega
    have e1 : (z &&& 255).toInt32 = nI (z &&& 255).toBitVec.toNat := by
      apply Int32.toBitVec_inj.mp
      apply BitVec.eq_of_toNat_eq
      rw [pk_tn (by omega)]
      show ((z &&& 255).toBitVec.signExtend 32).toNat = _
      rw [BitVec.signExtend_eq_setWidth_of_le _ (by omega), BitVec.toNat_setWidth]
      omega
  · exact e1
  · rw [e1]
    have := (pk_charN (q := (z &&& 255).toBitVec.toNat) (by omega)).1
    have e2 : ((nI (z &&& 255).toBitVec.toNat).toUInt32 % 65536).toInt32 = nI (z &&& 255).toBitVec.toNat := by
      rw [pk_char, pk_tn (by omega), Nat.mod_eq_of_lt (by omega)]
    rw [e2, vp_nar, this]
theorem s_X4_write {y : Int64} {tl k : Nat} {post : Int32 → (Nat → Int32) → Int32 → Prop} (hk : tl + k ≤ 200) : ∀ (z i : Nat) (xb : Nat → Int32), i + z = k → (∀ xb', (∀ j, j < tl + i → xb' j = xb j) → (∀ j, i ≤ j → j < k → ∃ c, c < 256 ∧ xb' (tl + j) = nI c ∧ ((y >>> ((8 * nI j).toInt64 &&& 63)) &&& 255).toInt32 = nI c) → post (nI (tl + k)) xb' (nI (tl + k))) → mx_l3 (f_X4_write_35 post y (nI k)) (z + 1) (nI i) xb (nI (tl + i)) := by
  intro z
  induction z with
  | zero =>
    intro i xb hi hp
    refine ⟨fun _ => ?_, fun c => absurd (nI_le (by omega) (by omega)) c⟩
    have h9 := hp xb (fun _ _ => rfl) (fun j h1 h2 => absurd h2 (by omega))
    rw [show i = k by omega]
    exact h9
  | succ z ih =>
    intro i xb hi hp
    obtain ⟨c, hc, e1, e2⟩ := cr_byte (y >>> ((8 * nI i).toInt64 &&& 63))
    refine ⟨fun c => absurd c (nI_ge (by omega) (by omega)), fun _ => ⟨fun c => absurd c (nI_ge (b := 200) (by omega) (by omega)), fun _ => ⟨vp_in_nI (by omega) (by omega), ?_⟩⟩⟩
    rw [e2, nI_1, nI_1, nI_clamp (by omega)]
    refine ih (i + 1) _ (by omega) (fun xb' h1 h2 => hp xb' (fun j hj => ?_) (fun j h3 h4 => ?_))
    · rw [h1 j (by omega), pk_un (by omega)]
    · by_cases h : j = i
      · subst h
        exact ⟨c, hc, by rw [h1 _ (by omega), pk_us], e1⟩
      · exact h2 j (by omega) h4
theorem s_X5_write {y : Int64} {tl k : Nat} {post : Int32 → Int32 → (Nat → Int32) → Prop} (hk : tl + k ≤ 200) : ∀ (z i : Nat) (mt : Nat → Int32), i + z = k → (∀ mt', (∀ j, j < tl + i → mt' j = mt j) → (∀ j, i ≤ j → j < k → mt' (tl + j) = ((y >>> ((8 * nI j).toInt64 &&& 63)) &&& 255).toInt32) → post (nI (tl + k)) (nI (tl + k)) mt') → mx_l2 (f_X5_write_31 post y (nI k) (nI tl)) (z + 1) (nI i) mt := by
  intro z
  induction z with
  | zero =>
    intro i mt hi hp
    refine ⟨fun _ => ?_, fun c => absurd (nI_le (by omega) (by omega)) c⟩
    show post (nI tl + nI k) (nI tl + nI k) mt
    rw [nI_add]
    exact hp mt (fun _ _ => rfl) (fun j h1 h2 => absurd h2 (by omega))
  | succ z ih =>
    intro i mt hi hp
    refine ⟨fun c => absurd c (nI_ge (by omega) (by omega)), fun _ => ?_⟩
    rw [nI_add, nI_1, nI_clamp (by omega)]
    refine ⟨vp_in_nI (by omega) (by omega), ih (i + 1) _ (by omega) (fun mt' h1 h2 => hp mt' (fun j hj => ?_) (fun j h3 h4 => ?_))⟩
    · rw [h1 j (by omega), pk_un (by omega)]
    · by_cases h : j = i
      · subst h
        rw [h1 _ (by omega), pk_us]
      · exact h2 j (by omega) h4
theorem j_write {y : Int64} {x : Int32} {xl ml : Int32} {xby mt : Nat → Int32} {post : Int32 → (Nat → Int32) → Int32 → Int32 → Int32 → (Nat → Int32) → Prop} (ht : cz_T xl xby ml mt)
    (hp : ∀ r xby' xl' ml' mt', cz_T xl' xby' ml' mt' → post r xby' xl' r ml' mt') : f_X4_write xby xl y x (fun r a b => f_X5_write ml mt y x (fun r2 c2 d2 => post r a b r2 c2 d2)) := by
  have same : ∀ r, post r xby xl r ml mt := fun r => hp r xby xl ml mt ht
  obtain ⟨tl, htl, rfl, rfl, hb⟩ := ht
  refine ⟨fun c => ?_, fun c => ⟨fun c2 => ?_, fun c2 => ?_⟩⟩
  · exact ⟨fun _ => ⟨fun c3 => absurd rfl c3, fun _ => same _⟩, fun c3 => absurd c c3⟩
  · have h0 : ¬ x < 0 := fun z => c (Int32.lt_trans z (by decide))
    obtain ⟨k, hk, rfl⟩ := cm_lt (k := 8) h0 (by omega) c2
    have e2 : nI tl + nI k ≤ 200 ↔ tl + k ≤ 200 := by rw [nI_add]; exact nI_leI (b := 200) (by omega) (by omega)
    have in1 : ∀ {P : Int32 → Prop}, P 1 → f_X5_in1 (nI k) 1 8 P := fun h => ⟨fun c3 => absurd c3 c, fun _ => ⟨fun c3 => absurd c2 (Int32.not_le.mpr c3), fun _ => h⟩⟩
    refine ⟨fun c3 => ?_, fun c3 => in1 ⟨fun _ => ⟨fun c4 => absurd c4 c3, fun _ => same _⟩, fun c4 => absurd c4 (by decide)⟩⟩
    have h200 := e2.mp c3
    refine ⟨k + 1, s_X4_write h200 k 0 xby (by omega) (fun xb' h1 h2 => in1 ⟨fun _ => ⟨fun _ => ⟨k + 1, s_X5_write h200 k 0 mt (by omega) (fun mt' h3 h4 => ?_)⟩, fun c4 => absurd c3 c4⟩, fun c4 => absurd c4 (by decide)⟩)⟩
    refine hp _ _ _ _ _ ⟨tl + k, h200, rfl, rfl, fun j hj => ?_⟩
    by_cases h : j < tl
    · rw [h1 j (by omega), h3 j (by omega)]
      exact hb j h
    · obtain ⟨c, q1, q2, q3⟩ := h2 (j - tl) (by omega) (by omega)
      have q4 := h4 (j - tl) (by omega) (by omega)
      rw [show tl + (j - tl) = j by omega] at q2 q4
      exact ⟨c, q1, q2, q4.trans q3⟩
  · exact ⟨fun c3 => absurd c3 c, fun _ => ⟨fun _ => ⟨fun c3 => absurd rfl c3, fun _ => same _⟩, fun c3 => absurd (Int32.not_le.mp c2) c3⟩⟩
/-! the floor -/
theorem s_placeOf {j : Nat} {post : Int32 → Prop} (hw : cz_W ns n d O xn xd xo mr 0) (hn8 : ns ≤ 8) (hj : j < ns) (h1 : ∀ k, k < n → O k = j → post (nI k)) (h0 : (∀ k, k < n → O k ≠ j) → post (-1)) : f_X3_placeOf xn xo (nI j) post := by
  have hn := hw.1
  rw [hw.2.2.1]
  have key : ∀ z i, i + z = n → (∀ k, k < i → O k ≠ j) → mx_l1 (f_X3_placeOf_2 (nI n) xo post (nI j)) (z + 1) (nI i) := by
    intro z
    induction z with
    | zero =>
      intro i hi hne
      exact ⟨fun _ => h0 (fun k hk => hne k (by omega)), fun c => absurd (nI_le (by omega) (by omega)) c⟩
    | succ z ih =>
      intro i hi hne
      obtain ⟨q1, q2, -⟩ := hw.2.2.2.2.2.2.1 i (by omega)
      refine ⟨fun c => absurd c (nI_ge (by omega) (by omega)), fun _ => ⟨vp_in_nI (by omega) (by omega), ?_⟩⟩
      rw [nI_clamp (by omega), q2, nI_eq (by omega) (by omega), nI_1]
      refine ⟨fun c => ih (i + 1) (by omega) (fun k hk => ?_), fun c => h1 i (by omega) c⟩
      rcases Nat.lt_or_ge k i with h | h
      · exact hne k h
      · rw [show k = i by omega]; exact c
  exact ⟨n + 1, key n 0 (by omega) (fun k hk => absurd hk (by omega))⟩
theorem cr_andn {a b c : Nat} (ha : a < 256) (hb : b < 256) (hc : c < 256) (h : ∀ i, i < 8 → (c.testBit i = true ↔ (a.testBit i = true ∧ b.testBit i = false))) : nI a &&& (nI b ^^^ (-1)) = nI c := by
  apply Int32.toBitVec_inj.mp
  apply BitVec.eq_of_toNat_eq
  rw [pk_tn (by omega), Int32.toBitVec_and, BitVec.toNat_and, pk_tn (by omega)]
  apply Nat.eq_of_testBit_eq
  intro i
  rw [Nat.testBit_and]
  by_cases hi : i < 8
  · rw [pz_not b hb i hi]
    have := h i hi
    cases h1 : a.testBit i <;> cases h2 : b.testBit i <;> cases h3 : c.testBit i <;> simp_all
  · rw [pz_tb_hi ha (by omega), pz_tb_hi hc (by omega)]; rfl
theorem pz_sm_add1 {f g : Nat → Nat} {j : Nat} : ∀ {ns : Nat}, j < ns → (∀ k, k < ns → k ≠ j → g k = f k) → pz_sm g ns + f j = pz_sm f ns + g j
  | 0, h, _ => absurd h (by omega)
  | ns + 1, h, hk => by
    rcases Nat.lt_or_ge j ns with h1 | h1
    · have ih := pz_sm_add1 (ns := ns) h1 (fun k a b => hk k (by omega) b)
      rw [pz_sm, pz_sm, hk ns (by omega) (by omega)]
      omega
    · have e : j = ns := by omega
      subst e
      have ih : pz_sm g j = pz_sm f j := pz_sm_cong (fun k a => hk k (by omega) (by omega))
      rw [pz_sm, pz_sm, ih]
      omega
theorem pz_hg_or {set j : Nat} (hj : j < ns) (hb : set.testBit j = false) : pz_hg ns K (set ||| 2 ^ j) = pz_hg ns K set + K j 3 := by
  have h := pz_sm_add1 (f := pz_on (fun s => K s 3) set) (g := pz_on (fun s => K s 3) (set ||| 2 ^ j)) hj (fun k hk hne => by
    unfold pz_on
    rw [pz_tb_or, decide_eq_false (fun e => hne e.symm), Bool.or_false])
  have e1 : pz_on (fun s => K s 3) set j = 0 := by unfold pz_on; rw [hb]; rfl
  have e2 : pz_on (fun s => K s 3) (set ||| 2 ^ j) j = K j 3 := by unfold pz_on; rw [pz_tb_or]; simp
  rw [e1, e2] at h
  exact h
/-- heights of the storeys set from p on -/
def cr_fl (K : Nat → Nat → Nat) (O : Nat → Nat) (p : Nat) : Nat → Nat
  | 0 => 0
  | k + 1 => cr_fl K O p k + K (O (p + k)) 3
theorem cr_fl_up (hO : ∀ i, i < n → O i < ns) (hd : ∀ i j, i < n → j < n → O i = O j → i = j) (p : Nat) : ∀ k, p + k ≤ n → pz_hg ns K (cz_up (fun i => O (p + i)) k) = cr_fl K O p k
  | 0, _ => by
    show pz_sm (pz_on (fun s => K s 3) 0) ns = 0
    have : ∀ m, pz_sm (pz_on (fun s => K s 3) 0) m = 0 := by
      intro m
      induction m with
      | zero => rfl
      | succ m ih => rw [pz_sm, ih]; simp [pz_on]
    exact this ns
  | k + 1, h => by
    have ih := cr_fl_up hO hd p k (by omega)
    rw [cz_up, pz_hg_or (hO _ (by omega)) ?_, ih]
    · rfl
    · refine pz_tf (fun z => ?_)
      obtain ⟨q, hq, e⟩ := (cz_up_bit _).mp z
      have := hd (p + q) (p + k) (by omega) (by omega) e
      omega
theorem cr_fl_front (K : Nat → Nat → Nat) (O : Nat → Nat) (p : Nat) : ∀ k, cr_fl K O p (k + 1) = K (O p) 3 + cr_fl K O (p + 1) k
  | 0 => by simp [cr_fl]
  | k + 1 => by
    rw [cr_fl, cr_fl_front K O p k, cr_fl, show p + (k + 1) = p + 1 + k by omega]
    omega
theorem s_X5_floor {j : Nat} {post : Int32 → Prop} (ho : pz_ok ns K np Pa Pb) (hm : pz_M ns K np Pa Pb mst mpr) (hw : cz_W ns n d O xn xd xo mr 0) (hj : j < ns) (h1 : ∀ p, p < n → O p = j → post (nI (cr_fl K O (p + 1) (n - (p + 1))))) (h0 : (∀ k, k < n → O k ≠ j) → post (-1)) : ∀ m, m ≤ n → (∀ k, m ≤ k → k < n → O k ≠ j) → mx_l2 (f_X5_floor_22 (nI ns) mr mst post (nI j)) (m + 1) (nI (cr_fl K O m (n - m))) (nI m - 1) := by
  have hn8 := ho.1
  have hn := hw.1
  intro m
  induction m with
  | zero =>
    intro hm0 hne
    exact ⟨fun _ => h0 (fun k hk => hne k (by omega) hk), fun c => absurd (by decide) c⟩
  | succ m ih =>
    intro hm1 hne
    obtain ⟨q1, -, q3⟩ := hw.2.2.2.2.2.2.1 m (by omega)
    have q4 : mr (2 + m) = nI (O m) := by rw [show 0 + 2 + m = 2 + m by omega] at q3; exact q3
    rw [nI_pred]
    refine ⟨fun c => absurd c (nI_pos (by omega)), fun _ => ?_⟩
    rw [ix_2p, nI_clamp (by omega), q4, ix_5, ix_p3, nI_clamp (by omega), hm.1 (O m) q1 3 (by omega), nI_eq (by omega) (by omega)]
    refine ⟨vp_in_nI (by omega) (by omega), fun c => ⟨vp_in_nI (by omega) (by omega), vp_in_nI (by omega) (by omega), ?_⟩, fun c => h1 m (by omega) c⟩
    rw [nI_add]
    have e : cr_fl K O (m + 1) (n - (m + 1)) + K (O m) 3 = cr_fl K O m (n - m) := by
      rw [show n - m = (n - (m + 1)) + 1 by omega, cr_fl_front]; omega
    rw [e, show nI m + (-1) = nI m - 1 from by apply Int32.toBitVec_inj.mp; simp [Int32.toBitVec_sub, Int32.toBitVec_add, BitVec.sub_eq_add_neg]]
    refine ih (by omega) (fun k a b => ?_)
    rcases Nat.eq_or_lt_of_le a with h | h
    · rw [← h]; exact c
    · exact hne k h b
theorem j_floor {x : Int32} {post : Int32 → Int32 → Prop} (hs : cz_S ns K np Pa Pb nb so Wd xs xp xb xs2 xc xk xw xt xh xf xa xv ms mj mo mp mst mpr mwd) (hw : cz_W ns n d O xn xd xo mr 0) (hp : ∀ r, post r r) : f_X4_floor xs xn xo xh x (fun r => f_X5_floor ms mr mst x (fun r2 => post r r2)) := by
  have hn8 := hs.1.1
  have ho := hs.1
  obtain ⟨e1, -⟩ := hs.2.2.2.2.1
  obtain ⟨g1, -⟩ := hs.2.2.2.2.2.2.2.1
  have hX := hs.2.2.2.2.2.1
  have hM := hs.2.2.2.2.2.2.2.2.1
  have hn := hw.1
  have w0 : mr 0 = nI n := hw.2.2.2.2.1
  have v0 : vp_in 0 10 := vp_in_nI (n := 0) (by omega) (by omega)
  have o8 := hw.o8 hn8
  unfold f_X4_floor f_X5_floor
  rw [e1, g1]
  rcases cz_ix x hn8 with ⟨j, hj, rfl⟩ | hx
  · refine s_has_t hn8 hj ⟨fun _ => ?_, fun c => absurd c (by decide)⟩
    have tail : ∀ r, (∀ p, p < n → O p = j → r = nI (cr_fl K O (p + 1) (n - (p + 1)))) → ((∀ k, k < n → O k ≠ j) → r = -1) → f_X5_isStorey (nI ns) (nI j) (fun r1 => (¬ r1 = 0 → vp_in 0 10 ∧ ∃ N, mx_l2 (f_X5_floor_22 (nI ns) mr mst (fun r2 => post r r2) (nI j)) N 0 (mr (0 : Int32).toNatClampNeg - 1)) ∧ (r1 = 0 → post r (-2))) := by
      intro r h1 h0
      refine s_st_t hn8 hj ⟨fun _ => ⟨v0, n + 1, ?_⟩, fun c => absurd c (by decide)⟩
      have h9 := s_X5_floor (post := fun r2 => post r r2) ho hM hw hj (fun p a b => by rw [h1 p a b]; exact hp _) (fun a => by rw [h0 a]; exact hp _) n (Nat.le_refl n) (fun k a b => absurd b (by omega))
      rw [Nat.sub_self] at h9
      rw [ix_0, w0]
      exact h9
    refine s_placeOf hw hn8 hj (fun p hpn hO => ⟨fun _ => s_set hw hn8 ?_, fun c => ?_⟩) (fun hne => ⟨fun c => absurd rfl c, fun _ => tail _ (fun p a b => absurd b (hne p a)) (fun _ => rfl)⟩)
    · rw [nI_1, hw.2.2.1]
      refine s_firstOnes hw hn8 (k := p + 1) (by omega) ?_
      have hlt : cz_up (fun i => O (p + 1 + i)) (n - (p + 1)) < 256 := cz_up_lt (fun i hi => o8 _ (by omega))
      rw [cr_andn (cz_up_lt o8) (cz_up_lt (fun i hi => o8 i (by omega))) hlt (fun i hi => ?_)]
      · refine s_X1_heightOf ho hX hlt (tail _ (fun p2 a b => ?_) (fun a => absurd hO (a p hpn)))
        have := hw.2.2.2.2.2.2.2 p p2 hpn a (by rw [hO, b])
        subst this
        rw [cr_fl_up (n := n) (fun i hi => (hw.2.2.2.2.2.2.1 i hi).1) hw.2.2.2.2.2.2.2 (p + 1) (n - (p + 1)) (by omega)]
      · rw [cz_up_bit, cz_up_bit]
        constructor
        · rintro ⟨k, hk, e⟩
          refine ⟨⟨p + 1 + k, by omega, e⟩, pz_tf (fun z => ?_)⟩
          obtain ⟨k2, hk2, e2⟩ := (cz_up_bit _).mp z
          have := hw.2.2.2.2.2.2.2 (p + 1 + k) k2 (by omega) (by omega) (by rw [e, e2])
          omega
        · rintro ⟨⟨k, hk, e⟩, hb⟩
          have : ¬ k < p + 1 := by
            intro h
            have := (cz_up_bit (O := O) (n := p + 1) i).mpr ⟨k, h, e⟩
            rw [hb] at this; cases this
          exact ⟨k - (p + 1), by omega, by rw [← e]; congr 1; omega⟩
    · exact absurd c (by
        intro h
        have := congrArg Int32.toInt h
        rw [nI_toInt (by omega)] at this
        have h2 : (-1 : Int32).toInt = -1 := by decide
        omega)
  · refine s_has_f hn8 hx ⟨fun c => absurd rfl c, fun _ => ?_⟩
    exact s_st_f hn8 hx ⟨fun c => absurd rfl c, fun _ => hp _⟩
end CR
