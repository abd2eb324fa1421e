/-! indices -/
theorem ix_5 (s : Nat) : (5 : Int32) * nI s = nI (5 * s) := pk_mul 5 s
theorem ix_2 (s : Nat) : (2 : Int32) * nI s = nI (2 * s) := pk_mul 2 s
theorem ix_10 (s : Nat) : (10 : Int32) * nI s = nI (10 * s) := pk_mul 10 s
theorem ix_p2 (n : Nat) : nI n + 2 = nI (n + 2) := nI_add n 2
theorem ix_p3 (n : Nat) : nI n + 3 = nI (n + 3) := nI_add n 3
theorem ix_p4 (n : Nat) : nI n + 4 = nI (n + 4) := nI_add n 4
theorem ix_2p (n : Nat) : (2 : Int32) + nI n = nI (2 + n) := nI_add 2 n
theorem ix_1p (n : Nat) : (1 : Int32) + nI n = nI (1 + n) := nI_add 1 n
theorem ix_0 : (0 : Int32).toNatClampNeg = 0 := rfl
theorem ix_1 : (1 : Int32).toNatClampNeg = 1 := rfl
theorem nI_eq0 {n : Nat} (h : n < 2 ^ 31) : nI n = 0 ↔ n = 0 := nI_eq (b := 0) h (by omega)
theorem nI_eqn {n : Nat} (k : Nat) (h : n < 2 ^ 31) (hk : k < 2 ^ 31) : nI n = nI k ↔ n = k := nI_eq h hk
/-- all below n -/
def pz_al (f : Nat → Bool) : Nat → Bool
  | 0 => true
  | n + 1 => pz_al f n && f n
theorem pz_al_iff {f : Nat → Bool} : ∀ {n : Nat}, pz_al f n = true ↔ ∀ k, k < n → f k = true
  | 0 => ⟨fun _ k h => absurd h (Nat.not_lt_zero k), fun _ => rfl⟩
  | n + 1 => by
    rw [pz_al, Bool.and_eq_true, pz_al_iff]
    constructor
    · intro h k hk
      rcases Nat.lt_or_ge k n with h1 | h1
      · exact h.1 k h1
      · rw [show k = n by omega]; exact h.2
    · intro h
      exact ⟨fun k hk => h k (by omega), h n (by omega)⟩
def pz_pc (set : Nat) : Nat := pz_sm (fun i => if set.testBit i then 1 else 0) 8
/-- how many bits, as the JDK counts them -/
def pz_bcf (x0 : Int32) : Int32 :=
  let z1 := (x0 - (((x0.toUInt32 >>> ((1 : Int32).toUInt32 &&& Int32.toUInt32 31)).toInt32) &&& 1431655765))
  let z2 := ((z1 &&& 858993459) + (((z1.toUInt32 >>> ((2 : Int32).toUInt32 &&& Int32.toUInt32 31)).toInt32) &&& 858993459))
  let z3 := ((z2 + ((z2.toUInt32 >>> ((4 : Int32).toUInt32 &&& Int32.toUInt32 31)).toInt32)) &&& 252645135)
  let z4 := ((z3 + ((z3.toUInt32 >>> ((8 : Int32).toUInt32 &&& Int32.toUInt32 31)).toInt32)) + (((z3 + ((z3.toUInt32 >>> ((8 : Int32).toUInt32 &&& Int32.toUInt32 31)).toInt32)).toUInt32 >>> ((16 : Int32).toUInt32 &&& Int32.toUInt32 31)).toInt32))
  z4 &&& 63
theorem pz_bc : ∀ set, set < 256 → pz_bcf (nI set) = nI (pz_pc set) := by decide +kernel
theorem pz_pc_le (set : Nat) : pz_pc set ≤ 8 := by
  have := pz_sm_le (f := fun i => if set.testBit i then 1 else 0) (c := 1) (n := 8) (fun k _ => by split <;> omega)
  unfold pz_pc; omega
theorem s_bitCount {set : Nat} {post : Int32 → Prop} (h : set < 256) (hp : post (nI (pz_pc set))) : f_J6_bitCount_0f7a4 (nI set) post := by
  intro z1 e1 z2 e2 z3 e3 z4 e4
  subst e1 e2 e3 e4
  rw [← pz_bc set h] at hp
  exact hp
theorem pz_bit1 : ∀ set, set < 256 → ∀ s, s < 8 → ((nI set >>> (nI s &&& 31)) &&& 1) = nI (if set.testBit s then 1 else 0) := by decide +kernel
theorem s_X5_bits {set : Nat} {post : Int32 → Prop} (h : set < 256) (hp : post (nI (pz_pc set))) : f_X5_bits (nI set) post := by
  have key : ∀ k i, i + k = 8 → mx_l2 (f_X5_bits_4 post (nI set)) (k + 1) (nI (pz_sm (fun i => if set.testBit i then 1 else 0) i)) (nI i) := by
    intro k
    induction k with
    | zero =>
      intro i hi
      refine ⟨fun _ => ?_, fun c => absurd (nI_le (a := 8) (by omega) (by omega)) c⟩
      rw [show i = 8 by omega]
      exact hp
    | succ k ih =>
      intro i hi
      refine ⟨fun c => absurd c (nI_ge (b := 8) (by omega) (by omega)), fun _ => ?_⟩
      rw [pz_bit1 set h i (by omega), nI_1, nI_add]
      exact ih (i + 1) (by omega)
  exact ⟨9, key 8 0 (by omega)⟩
/-- what stands of a site: how many, the fields (0 kind, 1 weight, 2 strength, 3 height, 4 folk), pairs -/
def pz_place (ns : Nat) (K : Nat → Nat → Nat) (np : Nat) (Pa Pb : Nat → Nat) (s set : Nat) : Bool :=
  ((decide (K s 0 ≠ 1) || decide (set = 0)) && (decide (K s 0 ≠ 3) || decide (pz_pc set < 3))) && (pz_al (fun k => !(set.testBit k) || decide (K k 0 ≠ 2)) ns && pz_al (fun k => decide (Pb k ≠ s) || set.testBit (Pa k)) np)
def pz_ld (ns : Nat) (K : Nat → Nat → Nat) (set : Nat) : Nat := pz_load (fun s => K s 1) (fun s => K s 4) ns set
def pz_why (ns : Nat) (K : Nat → Nat → Nat) (np : Nat) (Pa Pb : Nat → Nat) (s set bear : Nat) : Nat :=
  if set.testBit s then 1 else if pz_place ns K np Pa Pb s set = false then 2 else if K s 2 < pz_ld ns K set then 3 else if bear < pz_ld ns K set then 4 else 0
theorem pz_why_le (ns : Nat) (K : Nat → Nat → Nat) (np : Nat) (Pa Pb : Nat → Nat) (s set bear : Nat) : pz_why ns K np Pa Pb s set bear ≤ 4 := by
  unfold pz_why; repeat' split
  all_goals omega
/-- a site's numbers are within their bounds -/
def pz_ok (ns : Nat) (K : Nat → Nat → Nat) (np : Nat) (Pa Pb : Nat → Nat) : Prop :=
  ns ≤ 8 ∧ np ≤ 8 ∧ (∀ s, s < ns → K s 0 ≤ 3 ∧ (1 ≤ K s 1 ∧ K s 1 ≤ 99) ∧ K s 2 ≤ 999 ∧ (1 ≤ K s 3 ∧ K s 3 ≤ 9) ∧ K s 4 ≤ 99) ∧ (∀ k, k < np → Pa k < ns ∧ Pb k < ns)
theorem pz_ld_le {ns : Nat} {K : Nat → Nat → Nat} {np : Nat} {Pa Pb : Nat → Nat} (h : pz_ok ns K np Pa Pb) (set : Nat) : pz_ld ns K set ≤ 1584 := by
  have h1 := pz_sm_le (f := pz_on (fun s => K s 1 + K s 4) set) (c := 198) (n := ns) (fun k hk => pz_on_le (by have := h.2.2.1 k hk; omega))
  have h2 := h.1
  show pz_sm (pz_on (fun s => K s 1 + K s 4) set) ns ≤ _
  have h3 : ns * 198 ≤ 8 * 198 := Nat.mul_le_mul_right _ h2
  omega
/-- the rows of the class's Site -/
def pz_X (ns : Nat) (K : Nat → Nat → Nat) (np : Nat) (Pa Pb : Nat → Nat) (cellars : Int32) (kind weight strength height folk above : Nat → Int32) : Prop :=
  (∃ cel, cel < 256 ∧ cellars = nI cel ∧ ∀ i, i < 8 → (cel.testBit i = true ↔ (i < ns ∧ K i 0 = 2))) ∧
  (∀ s, s < ns → kind s = nI (K s 0) ∧ weight s = nI (K s 1) ∧ strength s = nI (K s 2) ∧ height s = nI (K s 3) ∧ folk s = nI (K s 4) ∧
    ∃ ab, ab < 256 ∧ above s = nI ab ∧ ∀ i, i < 8 → (ab.testBit i = true ↔ ∃ k, k < np ∧ Pb k = s ∧ Pa k = i))
/-- the rows of the model -/
def pz_M (ns : Nat) (K : Nat → Nat → Nat) (np : Nat) (Pa Pb : Nat → Nat) (storey pair : Nat → Int32) : Prop :=
  (∀ s, s < ns → ∀ f, f < 5 → storey (5 * s + f) = nI (K s f)) ∧ (∀ k, k < np → pair (2 * k) = nI (Pa k) ∧ pair (2 * k + 1) = nI (Pb k))
section PZ
variable {ns np : Nat} {K : Nat → Nat → Nat} {Pa Pb : Nat → Nat} {cellars : Int32} {kind weight strength height folk above storey pair : Nat → Int32}
theorem s_X1_load {set : Nat} {post : Int32 → Prop} (ho : pz_ok ns K np Pa Pb) (hx : pz_X ns K np Pa Pb cellars kind weight strength height folk above) (hset : set < 256) (hp : post (nI (pz_ld ns K set))) : f_X1_loadOf (nI ns) weight folk (nI set) post :=
  s_X1_loadOf ho.1 hset (fun s hs => ⟨(hx.2 s hs).2.1, (hx.2 s hs).2.2.2.2.1⟩) hp
theorem pz_tf {b : Bool} (h : ¬ b = true) : b = false := by cases b <;> simp_all
theorem s_X1_place47 {s set : Nat} {post : Int32 → Prop} (ho : pz_ok ns K np Pa Pb) (hx : pz_X ns K np Pa Pb cellars kind weight strength height folk above) (hset : set < 256) (hs : s < ns)
    (h1 : pz_al (fun k => decide (Pb k ≠ s) || set.testBit (Pa k)) np = true → post 1) (h0 : pz_al (fun k => decide (Pb k ≠ s) || set.testBit (Pa k)) np = false → post 0) : f_X1_hasPlace_47 kind cellars above post (nI s) (nI set) := by
  obtain ⟨ab, hab, eab, hbit⟩ := (hx.2 s hs).2.2.2.2.2
  have hs8 := ho.1
  refine ⟨vp_in_nI (by omega) (by omega), ?_⟩
  rw [nI_clamp (by omega), eab]
  have key : (nI ab &&& (nI set ^^^ (-1)) = 0) ↔ pz_al (fun k => decide (Pb k ≠ s) || set.testBit (Pa k)) np = true := by
    rw [pz_sub0 hab hset, pz_al_iff]
    constructor
    · intro h k hk
      by_cases hb : Pb k = s
      · have hp8 : Pa k < 8 := by have := (ho.2.2.2 k hk).1; omega
        have := h (Pa k) hp8 ((hbit (Pa k) hp8).mpr ⟨k, hk, hb, rfl⟩)
        simp [this]
      · simp [hb]
    · intro h i hi hai
      obtain ⟨k, hk, e1, e2⟩ := (hbit i hi).mp hai
      have := h k hk
      simp [e1] at this
      rw [← e2]; exact this
  refine ⟨fun c => h0 (pz_tf (fun z => c (key.mpr z))), fun c => h1 (key.mp c)⟩
theorem s_X1_hasPlace {s set : Nat} {post : Int32 → Prop} (ho : pz_ok ns K np Pa Pb) (hx : pz_X ns K np Pa Pb cellars kind weight strength height folk above) (hset : set < 256) (hs : s < ns)
    (h1 : pz_place ns K np Pa Pb s set = true → post 1) (h0 : pz_place ns K np Pa Pb s set = false → post 0) : f_X1_hasPlace kind cellars above (nI s) (nI set) post := by
  have hs8 := ho.1
  have hk := (hx.2 s hs).1
  have hK := (ho.2.2.1 s hs).1
  have e1 : (nI (K s 0) = 1) ↔ K s 0 = 1 := nI_eqn 1 (by omega) (by omega)
  have e3 : (nI (K s 0) = 3) ↔ K s 0 = 3 := nI_eqn 3 (by omega) (by omega)
  obtain ⟨cel, hcel, ecel, hbit⟩ := hx.1
  have hc : (nI cel &&& nI set = 0) ↔ pz_al (fun k => !(set.testBit k) || decide (K k 0 ≠ 2)) ns = true := by
    rw [pz_and0 hcel hset, pz_al_iff]
    constructor
    · intro h k hk
      by_cases hb : K k 0 = 2
      · have := h k (by omega)
        rw [hbit k (by omega)] at this
        have h2 : ¬ set.testBit k = true := fun z => this ⟨⟨hk, hb⟩, z⟩
        simp [pz_tf h2]
      · simp [hb]
    · intro h i hi ⟨ha, hb⟩
      obtain ⟨g1, g2⟩ := (hbit i hi).mp ha
      have := h i g1
      simp [g2, hb] at this
  have step16 : (K s 0 ≠ 1 ∨ set = 0) → f_X1_hasPlace_16 kind cellars above post (nI s) (nI set) := by
    intro hr
    have hA : (decide (K s 0 ≠ 1) || decide (set = 0)) = true := by rcases hr with h | h <;> simp [h]
    refine ⟨fun c => ⟨vp_in_nI (by omega) (by omega), ?_⟩, fun c => h0 ?_⟩
    · rw [ecel] at c
      have hc' := hc.mp c
      rw [nI_clamp (by omega), hk, e3]
      refine ⟨fun c3 => s_X1_place47 ho hx hset hs (fun z => h1 ?_) (fun z => h0 ?_), fun c3 => s_bitCount hset ⟨fun c4 => s_X1_place47 ho hx hset hs (fun z => h1 ?_) (fun z => h0 ?_), fun c4 => h0 ?_⟩⟩
      · unfold pz_place; rw [hA, hc', z]; simp [c3]
      · unfold pz_place; rw [z]; simp
      · have c5 : pz_pc set < 3 := (nI_ltI (b := 3) (by have := pz_pc_le set; omega) (by omega)).mp c4
        unfold pz_place; rw [hA, hc', z]; simp [c5]
      · unfold pz_place; rw [z]; simp
      · have c5 : ¬ pz_pc set < 3 := fun z => c4 ((nI_ltI (b := 3) (by have := pz_pc_le set; omega) (by omega)).mpr z)
        unfold pz_place; simp [c3, c5]
    · rw [ecel] at c
      have hc' := pz_tf (fun z => c (hc.mpr z))
      unfold pz_place; rw [hc']; simp
  refine ⟨vp_in_nI (by omega) (by omega), ?_⟩
  rw [nI_clamp (by omega), hk, e1]
  refine ⟨fun c => step16 (Or.inl c), fun c => ⟨fun c2 => step16 (Or.inr ((nI_eq0 (by omega)).mp c2)), fun c2 => h0 ?_⟩⟩
  have c3 : ¬ set = 0 := fun z => c2 ((nI_eq0 (by omega)).mpr z)
  unfold pz_place; simp [c, c3]
theorem s_X1_whyNot {s set bear : Nat} {post : Int32 → Prop} (ho : pz_ok ns K np Pa Pb) (hx : pz_X ns K np Pa Pb cellars kind weight strength height folk above) (hset : set < 256) (hs : s < ns) (hbear : bear < 2 ^ 31) (hp : post (nI (pz_why ns K np Pa Pb s set bear))) : f_X1_whyNot kind cellars above strength (nI s) (nI set) (nI (pz_ld ns K set)) (nI bear) post := by
  have hs8 := ho.1
  have hl := pz_ld_le ho set
  have hK := (ho.2.2.1 s hs).2.2.1
  refine ⟨fun c => ?_, fun c => ?_⟩
  · have hb : set.testBit s = false := pz_tf (fun z => c ((pz_bit set hset s (by omega)).mpr z))
    refine s_X1_hasPlace ho hx hset hs (fun z => ⟨fun _ => ⟨vp_in_nI (by omega) (by omega), ?_⟩, fun c => absurd c (by decide)⟩) (fun z => ⟨fun c => absurd rfl c, fun _ => ?_⟩)
    · rw [nI_clamp (by omega), (hx.2 s hs).2.2.1, nI_leI (by omega) (by omega), nI_leI (by omega) (by omega)]
      refine ⟨fun c1 => ⟨fun c2 => ?_, fun c2 => ?_⟩, fun c1 => ?_⟩
      · have e : pz_why ns K np Pa Pb s set bear = 0 := by unfold pz_why; rw [hb, z, if_neg (by simp), if_neg (by simp), if_neg (by omega), if_neg (by omega)]
        rw [e] at hp; exact hp
      · have e : pz_why ns K np Pa Pb s set bear = 4 := by unfold pz_why; rw [hb, z, if_neg (by simp), if_neg (by simp), if_neg (by omega), if_pos (by omega)]
        rw [e] at hp; exact hp
      · have e : pz_why ns K np Pa Pb s set bear = 3 := by unfold pz_why; rw [hb, z, if_neg (by simp), if_neg (by simp), if_pos (by omega)]
        rw [e] at hp; exact hp
    · have e : pz_why ns K np Pa Pb s set bear = 2 := by unfold pz_why; rw [hb, z, if_neg (by simp), if_pos rfl]
      rw [e] at hp; exact hp
  · have hb : set.testBit s = true := (pz_bit set hset s (by omega)).mp c
    have e : pz_why ns K np Pa Pb s set bear = 1 := by unfold pz_why; rw [hb, if_pos rfl]
    rw [e] at hp; exact hp
theorem s_X5_has {set s : Nat} {post : Int32 → Prop} (hset : set < 256) (hs : s < 8) (h1 : set.testBit s = true → post 1) (h0 : set.testBit s = false → post 0) : f_X5_has (nI set) (nI s) post :=
  ⟨fun c => h0 (pz_tf (fun z => c ((pz_bit set hset s hs).mpr z))), fun c => h1 ((pz_bit set hset s hs).mp c)⟩
theorem s_X5_loadOf {s : Nat} {post : Int32 → Prop} (ho : pz_ok ns K np Pa Pb) (hm : pz_M ns K np Pa Pb storey pair) (hs : s < ns) (hp : post (nI (K s 1 + K s 4))) : f_X5_loadOf storey (nI s) post := by
  have hs8 := ho.1
  unfold f_X5_loadOf
  rw [ix_5, nI_1, ix_p4, nI_clamp (by omega), nI_clamp (by omega), hm.1 s hs 1 (by omega), hm.1 s hs 4 (by omega), nI_add]
  exact ⟨vp_in_nI (by omega) (by omega), vp_in_nI (by omega) (by omega), hp⟩
theorem s_X5_loadOfAll {set : Nat} {post : Int32 → Prop} (ho : pz_ok ns K np Pa Pb) (hm : pz_M ns K np Pa Pb storey pair) (hset : set < 256) (hp : post (nI (pz_ld ns K set))) : f_X5_loadOfAll (nI ns) storey (nI set) post := by
  have hs8 := ho.1
  have key : ∀ k i, i + k = ns → mx_l2 (f_X5_loadOfAll_4 (nI ns) storey post (nI set)) (k + 1) (nI (pz_ld i K set)) (nI i) := by
    intro k
    induction k with
    | zero =>
      intro i hi
      refine ⟨fun _ => ?_, fun c => absurd (nI_le (by omega) (by omega)) c⟩
      rw [show i = ns by omega]
      exact hp
    | succ k ih =>
      intro i hi
      refine ⟨fun c => absurd c (nI_ge (by omega) (by omega)), fun _ => s_X5_has hset (by omega) (fun hb => ⟨fun c => absurd c (by decide), fun _ => s_X5_loadOf ho hm (by omega) ?_⟩) (fun hb => ⟨fun _ => ?_, fun c => absurd rfl c⟩)⟩
      · show mx_l2 _ _ _ _
        have e : pz_ld (i + 1) K set = pz_ld i K set + (K i 1 + K i 4) := by simp [pz_ld, pz_load, pz_sm, pz_on, hb]
        have h9 := ih (i + 1) (by omega)
        rw [e] at h9
        rw [nI_1, nI_add]
        exact h9
      · show mx_l2 _ _ _ _
        have e : pz_ld (i + 1) K set = pz_ld i K set := by simp [pz_ld, pz_load, pz_sm, pz_on, hb]
        have h9 := ih (i + 1) (by omega)
        rw [e] at h9
        rw [nI_1, show nI (pz_ld i K set) + 0 = nI (pz_ld i K set) from nI_add _ 0]
        exact h9
  exact ⟨ns + 1, key ns 0 (by omega)⟩
end PZ
