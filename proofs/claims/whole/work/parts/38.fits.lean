/-! what one weighs by what was seen -/
theorem ft_add {a b : Int32} {x y : Int} (ha : a.toInt = x) (hb : b.toInt = y) (h1 : -2 ^ 31 ≤ x + y) (h2 : x + y < 2 ^ 31) : (a + b).toInt = x + y := by
  subst ha hb
  rw [Int32.toInt_add, Int.bmod_eq_of_le (by omega) (by omega)]
theorem ft_sub {a b : Int32} {x y : Int} (ha : a.toInt = x) (hb : b.toInt = y) (h1 : -2 ^ 31 ≤ x - y) (h2 : x - y < 2 ^ 31) : (a - b).toInt = x - y := by
  subst ha hb
  rw [Int32.toInt_sub, Int.bmod_eq_of_le (by omega) (by omega)]
theorem ft_nI {a : Int32} {x : Int} (ha : a.toInt = x) (h1 : 0 ≤ x) (h2 : x < 2 ^ 31) : a = nI x.toNat := by
  apply Int32.toInt_inj.mp
  rw [ha, nI_toInt (by omega)]
  omega
/-- the weight of one set otherwise -/
def ft_K (K : Nat → Nat → Nat) (j w : Nat) (s f : Nat) : Nat := if s = j ∧ f = 1 then w else K s f
/-- the load of the first a -/
def ft_ld (K : Nat → Nat → Nat) (O : Nat → Nat) : Nat → Nat
  | 0 => 0
  | a + 1 => ft_ld K O a + (K (O a) 1 + K (O a) 4)
section FT
variable {ns np nb so n d : Nat} {K : Nat → Nat → Nat} {Pa Pb Wd O : Nat → Nat} {xs xp xb xs2 xc : Int32} {xk xw xt xh xf xa xv : Nat → Int32} {ms mj mo mp : Int32} {mst mpr mwd : Nat → Int32} {xn xd : Int32} {xo mr : Nat → Int32}
theorem pz_ld_or {set j : Nat} (hj : j < ns) (hb : set.testBit j = false) : pz_ld ns K (set ||| 2 ^ j) = pz_ld ns K set + (K j 1 + K j 4) := by
  have h := pz_sm_add1 (f := pz_on (fun s => K s 1 + K s 4) set) (g := pz_on (fun s => K s 1 + K s 4) (set ||| 2 ^ j)) hj (fun k hk hne => by
    unfold pz_on
    rw [pz_tb_or, decide_eq_false (fun e => hne e.symm), Bool.or_false])
  have e1 : pz_on (fun s => K s 1 + K s 4) set j = 0 := by unfold pz_on; rw [hb]; rfl
  have e2 : pz_on (fun s => K s 1 + K s 4) (set ||| 2 ^ j) j = K j 1 + K j 4 := by unfold pz_on; rw [pz_tb_or]; simp
  rw [e1, e2] at h
  exact h
theorem ft_ld_up (hO : ∀ i, i < n → O i < ns) (hd : ∀ i j, i < n → j < n → O i = O j → i = j) : ∀ a, a ≤ n → ft_ld K O a = pz_ld ns K (cz_up O a)
  | 0, _ => (pz_sm_zero ns (fun k hk => by simp [pz_on, cz_up])).symm
  | a + 1, h => by
    rw [cz_up, pz_ld_or (hO _ (by omega)) ?_, ft_ld, ft_ld_up hO hd a (by omega)]
    refine pz_tf (fun z => ?_)
    obtain ⟨q, hq, e⟩ := (cz_up_bit _).mp z
    have := hd q a (by omega) (by omega) e
    omega
theorem ft_w {set j w : Nat} (hj : j < ns) : pz_ld ns (ft_K K j w) set + (if set.testBit j then K j 1 else 0) = pz_ld ns K set + (if set.testBit j then w else 0) := by
  have h := pz_sm_add1 (f := pz_on (fun s => K s 1 + K s 4) set) (g := pz_on (fun s => ft_K K j w s 1 + ft_K K j w s 4) set) hj (fun k hk hne => by
    unfold pz_on ft_K
    simp [hne])
  have e1 : pz_on (fun s => ft_K K j w s 1 + ft_K K j w s 4) set j = if set.testBit j then w + K j 4 else 0 := by unfold pz_on ft_K; simp
  have e2 : pz_on (fun s => K s 1 + K s 4) set j = if set.testBit j then K j 1 + K j 4 else 0 := by unfold pz_on; simp
  rw [e1, e2] at h
  show pz_sm (pz_on (fun s => ft_K K j w s 1 + ft_K K j w s 4) set) ns + _ = pz_sm (pz_on (fun s => K s 1 + K s 4) set) ns + _
  cases hb : set.testBit j <;> simp only [hb, if_true, if_false, Bool.false_eq_true] at h ⊢ <;> omega
/-- what is asked of a weight -/
def ft_A (K : Nat → Nat → Nat) (O : Nat → Nat) (so : Nat) (A G : Nat → Nat) (j m w : Nat) : Prop := ∀ t, t < m → ft_ld (ft_K K j w) O (A t) / so = G t
theorem ft_div {so L g : Nat} (h : 1 ≤ so) : L / so = g ↔ g * so ≤ L ∧ L < g * so + so := by
  rw [Nat.div_eq_iff h]
  constructor
  · rintro ⟨h1, h2⟩; exact ⟨h1, by omega⟩
  · rintro ⟨h1, h2⟩; exact ⟨h1, by omega⟩
def ft_v (x2 : Int32) (l g : Int) : Int32 := if l ≤ g then (if x2 = 0 then nI (g - l + 1).toNat else if x2 = 1 then nI l.toNat else nI g.toNat) else (if x2 = 0 then 0 else -1)
theorem s_X4_fits {j sm : Nat} {A G : Nat → Nat} {xat xin : Nat → Int32} {x2 : Int32} {post : Int32 → Prop} (ho : pz_ok ns K np Pa Pb) (hso : 1 ≤ so ∧ so ≤ 99) (hX : pz_X ns K np Pa Pb xc xk xw xt xh xf xa) (hw : cz_W ns n d O xn xd xo mr 0) (hj : j < ns) (hsm : sm ≤ 8) (hN : ∀ i, i < sm → A i < n ∧ G i ≤ 999 ∧ xat i = nI (A i) ∧ xin i = nI (G i))
    (hp : ∀ l g : Int, 1 ≤ l → g ≤ 99 → (∀ w : Nat, 1 ≤ w → w ≤ 99 → ((l ≤ w ∧ w ≤ g) ↔ ft_A K O so A G j sm w)) → post (ft_v x2 l g)) : ∀ (z i : Nat) (x3 x4 : Int32) (l g : Int), i + z = sm → x3.toInt = l → x4.toInt = g → 1 ≤ l → l ≤ 200000 → g ≤ 99 → -200000 ≤ g → (∀ w : Nat, 1 ≤ w → w ≤ 99 → ((l ≤ w ∧ w ≤ g) ↔ ft_A K O so A G j i w)) → mx_l3 (f_X4_fits_35 (nI ns) (nI sm) xat xn xo xin (nI so) xw xf post (nI j) x2) (z + 1) x3 x4 (nI i) := by
  have hn8 := ho.1
  have hn := hw.1
  have o8 := hw.o8 hn8
  have hO : ∀ i, i < n → O i < ns := fun i hi => (hw.2.2.2.2.2.2.1 i hi).1
  intro z
  induction z with
  | zero =>
    intro i x3 x4 l g hi e3 e4 l1 l2 g1 g2 hA
    refine ⟨fun _ => ?_, fun c => absurd (nI_le (by omega) (by omega)) c⟩
    rw [show i = sm by omega] at hA
    have hv := hp l g l1 g1 hA
    have em : ((x4 - x3) + 1).toInt = g - l + 1 := ft_add (ft_sub e4 e3 (by omega) (by omega)) (by rfl : (1 : Int32).toInt = 1) (by omega) (by omega)
    unfold ft_v at hv
    by_cases hlg : l ≤ g
    · rw [if_pos hlg] at hv
      have m1 := ft_nI em (by omega) (by omega)
      have m2 : (if 0 < (x4 - x3) + 1 then (x4 - x3) + 1 else 0) = nI (g - l + 1).toNat := by
        rw [m1, if_pos]
        exact (nI_ltI (a := 0) (by omega) (by omega)).mpr (by omega)
      unfold f_X4_fits_169
      rw [m2, ft_nI e3 (by omega) (by omega), ft_nI e4 (by omega) (by omega)]
      refine ⟨fun c => ⟨fun c2 => ⟨fun c3 => ?_, fun c3 => ?_⟩, fun c2 => absurd ((nI_eq0 (by omega)).mp c2) (by omega)⟩, fun c => ?_⟩
      · rw [if_neg c, if_neg c3] at hv; exact hv
      · rw [if_neg c, if_pos c3] at hv; exact hv
      · rw [if_pos c] at hv; exact hv
    · rw [if_neg hlg] at hv
      have m2 : (if 0 < (x4 - x3) + 1 then (x4 - x3) + 1 else 0) = 0 := by
        rw [if_neg]
        rw [Int32.lt_iff_toInt_lt, em]
        show ¬ (0 : Int) < _
        omega
      unfold f_X4_fits_169
      rw [m2]
      refine ⟨fun c => ⟨fun c2 => absurd rfl c2, fun _ => ?_⟩, fun c => ?_⟩
      · rw [if_neg c] at hv; exact hv
      · rw [if_pos c] at hv; exact hv
  | succ z ih =>
    intro i x3 x4 l g hi e3 e4 l1 l2 g1 g2 hA
    obtain ⟨n1, n2, n3, n4⟩ := hN i (by omega)
    have hset : cz_up O (A i) < 256 := cz_up_lt (fun k hk => o8 k (by omega))
    have hL := pz_ld_le ho (cz_up O (A i))
    have hbit := pz_bit (cz_up O (A i)) hset j (by omega)
    have hgs : G i * so ≤ 999 * 99 := Nat.mul_le_mul n2 hso.2
    have hK := (ho.2.2.1 j hj).2.1
    have ald : ∀ w, ft_ld (ft_K K j w) O (A i) + (if (cz_up O (A i)).testBit j then K j 1 else 0) = pz_ld ns K (cz_up O (A i)) + (if (cz_up O (A i)).testBit j then w else 0) := fun w => by
      rw [ft_ld_up hO hw.2.2.2.2.2.2.2 (A i) (by omega)]; exact ft_w hj
    have hAs : ∀ w, ft_A K O so A G j (i + 1) w ↔ (ft_A K O so A G j i w ∧ ft_ld (ft_K K j w) O (A i) / so = G i) := fun w => by
      unfold ft_A
      constructor
      · intro h; exact ⟨fun t ht => h t (by omega), h i (by omega)⟩
      · rintro ⟨h1, h2⟩ t ht
        rcases Nat.lt_or_ge t i with h | h
        · exact h1 t h
        · rw [show t = i by omega]; exact h2
    have el : (nI (G i) * nI so - nI (pz_ld ns K (cz_up O (A i)))).toInt = (G i * so : Nat) - (pz_ld ns K (cz_up O (A i)) : Nat) := by rw [pk_mul]; exact pk_sub_toInt (by omega) (by omega)
    have em : (nI (G i) * nI so - nI (pz_ld ns K (cz_up O (A i))) + nI so - 1).toInt = (G i * so : Nat) - (pz_ld ns K (cz_up O (A i)) : Nat) + so - 1 := ft_sub (ft_add el (nI_toInt (by omega)) (by omega) (by omega)) (by rfl : (1 : Int32).toInt = 1) (by omega) (by omega)
    refine ⟨fun c => absurd c (nI_ge (by omega) (by omega)), fun _ => ⟨vp_in_nI (by omega) (by omega), ?_⟩⟩
    rw [hw.2.2.1, nI_clamp (by omega), n3, n4]
    refine s_firstOnes hw hn8 (by omega) ⟨vp_in_nI (by omega) (by omega), s_X1_load ho hX hset ?_⟩
    rw [hbit, ← hw.2.2.1, nI_1]
    refine ⟨fun cb => ?_, fun cb => ?_⟩
    · have cb2 : (cz_up O (A i)).testBit j = false := pz_tf cb
      simp only [cb2, if_false, Bool.false_eq_true, Nat.add_zero] at ald
      refine ⟨fun c => ?_, fun c => ⟨fun c2 => ?_, fun c2 => ?_⟩⟩
      · rw [Int32.lt_iff_toInt_lt, el, show (0 : Int32).toInt = 0 from rfl] at c
        refine ih (i + 1) x3 0 l 0 (by omega) e3 rfl l1 l2 (by omega) (by omega) (fun w w1 w2 => ?_)
        rw [hAs, ft_div hso.1, ald]
        constructor
        · intro h; omega
        · intro h; omega
      · rw [Int32.lt_iff_toInt_lt, el, show (0 : Int32).toInt = 0 from rfl] at c
        rw [Int32.le_iff_toInt_le, em, show (0 : Int32).toInt = 0 from rfl] at c2
        refine ih (i + 1) x3 x4 l g (by omega) e3 e4 l1 l2 g1 g2 (fun w w1 w2 => ?_)
        rw [hAs, ft_div hso.1, ald, hA w w1 w2]
        constructor
        · intro h; exact ⟨h, by omega, by omega⟩
        · intro h; exact h.1
      · rw [Int32.le_iff_toInt_le, em, show (0 : Int32).toInt = 0 from rfl] at c2
        refine ih (i + 1) x3 0 l 0 (by omega) e3 rfl l1 l2 (by omega) (by omega) (fun w w1 w2 => ?_)
        rw [hAs, ft_div hso.1, ald]
        constructor
        · intro h; omega
        · intro h; omega
    · simp only [cb, if_true] at ald
      have ew : (nI (K j 1) + (nI (G i) * nI so - nI (pz_ld ns K (cz_up O (A i))))).toInt = (K j 1 : Nat) + ((G i * so : Nat) - (pz_ld ns K (cz_up O (A i)) : Nat)) := ft_add (nI_toInt (by omega)) el (by omega) (by omega)
      have ev : (nI (K j 1) + (nI (G i) * nI so - nI (pz_ld ns K (cz_up O (A i))) + nI so - 1)).toInt = (K j 1 : Nat) + ((G i * so : Nat) - (pz_ld ns K (cz_up O (A i)) : Nat) + so - 1) := ft_add (nI_toInt (by omega)) em (by omega) (by omega)
      rw [nI_clamp (by omega), (hX.2 j hj).2.1]
      refine ⟨vp_in_nI (by omega) (by omega), fun z3 h3 => ⟨vp_in_nI (by omega) (by omega), fun z4 h4 => ?_⟩⟩
      obtain ⟨l', hl', ll⟩ : ∃ l' : Int, z3.toInt = l' ∧ l' = max l ((K j 1 : Nat) + ((G i * so : Nat) - (pz_ld ns K (cz_up O (A i)) : Nat))) := by
        by_cases c : x3 < nI (K j 1) + (nI (G i) * nI so - nI (pz_ld ns K (cz_up O (A i))))
        · rw [if_pos c] at h3
          rw [Int32.lt_iff_toInt_lt, e3, ew] at c
          exact ⟨_, by rw [h3, ew], by omega⟩
        · rw [if_neg c] at h3
          rw [Int32.lt_iff_toInt_lt, e3, ew] at c
          exact ⟨_, by rw [h3, e3], by omega⟩
      obtain ⟨g', hg', gg⟩ : ∃ g' : Int, z4.toInt = g' ∧ g' = min g ((K j 1 : Nat) + ((G i * so : Nat) - (pz_ld ns K (cz_up O (A i)) : Nat) + so - 1)) := by
        by_cases c : nI (K j 1) + (nI (G i) * nI so - nI (pz_ld ns K (cz_up O (A i))) + nI so - 1) < x4
        · rw [if_pos c] at h4
          rw [Int32.lt_iff_toInt_lt, e4, ev] at c
          exact ⟨_, by rw [h4, ev], by omega⟩
        · rw [if_neg c] at h4
          rw [Int32.lt_iff_toInt_lt, e4, ev] at c
          exact ⟨_, by rw [h4, e4], by omega⟩
      refine ih (i + 1) z3 z4 l' g' (by omega) hl' hg' (by omega) (by omega) (by omega) (by omega) (fun w w1 w2 => ?_)
      have := ald w
      rw [hAs, ft_div hso.1, ← hA w w1 w2]
      constructor
      · intro h; refine ⟨⟨?_, ?_⟩, ?_, ?_⟩ <;> omega
      · intro h; refine ⟨?_, ?_⟩ <;> omega
end FT
