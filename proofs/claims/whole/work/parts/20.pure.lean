/-! numbers: small sets as bits -/
theorem pz_bit : ∀ set, set < 256 → ∀ s, s < 8 → ((((nI set >>> (nI s &&& 31)) &&& 1) = 1) ↔ set.testBit s = true) := by decide +kernel
theorem pz_or : ∀ set, set < 256 → ∀ s, s < 8 → (nI set ||| ((1 : Int32) <<< (nI s &&& 31))) = nI (set ||| 2 ^ s) := by decide +kernel
theorem pz_or_lt : ∀ set, set < 256 → ∀ s, s < 8 → set ||| 2 ^ s < 256 := by decide +kernel
theorem pz_shl : ∀ s, s < 9 → ((1 : Int32) <<< (nI s &&& 31)) = nI (2 ^ s) := by decide +kernel
theorem pz_all : ∀ n, n < 9 → ((1 : Int32) <<< (nI n &&& 31)) - 1 = nI (2 ^ n - 1) := by decide +kernel
theorem pz_all_lt : ∀ n, n < 9 → 2 ^ n - 1 < 256 ∧ 2 ^ n ≤ 256 ∧ 0 < 2 ^ n := by decide
theorem pz_off : ∀ set, set < 256 → ∀ s, s < 8 → (nI set &&& (((1 : Int32) <<< (nI s &&& 31)) ^^^ (-1))) = nI (if set.testBit s then set - 2 ^ s else set) := by decide +kernel
theorem pz_tb_or (set s i : Nat) : (set ||| 2 ^ s).testBit i = (set.testBit i || decide (s = i)) := by
  rw [Nat.testBit_or, Nat.testBit_two_pow]
theorem pz_and (a b : Nat) : nI a &&& nI b = nI (a &&& b) := by
  apply Int32.toBitVec_inj.mp
  simp [nI, Int32.toBitVec_and, Int32.toBitVec_ofNat', BitVec.ofNat_and]
theorem pz_tb_hi {a i : Nat} (h : a < 256) (hi : 8 ≤ i) : a.testBit i = false := Nat.testBit_lt_two_pow (Nat.lt_of_lt_of_le h (Nat.pow_le_pow_right (n := 2) (by omega) hi))
theorem pz_and0 {a b : Nat} (ha : a < 256) (hb : b < 256) : (nI a &&& nI b = 0) ↔ ∀ i, i < 8 → ¬ (a.testBit i = true ∧ b.testBit i = true) := by
  have hab : a &&& b < 2 ^ 31 := Nat.lt_of_le_of_lt Nat.and_le_left (by omega)
  rw [pz_and, show (0 : Int32) = nI 0 from rfl, nI_eq hab (by omega)]
  constructor
  · intro h i _ hi
    have h2 : (a &&& b).testBit i = true := by rw [Nat.testBit_and, hi.1, hi.2]; rfl
    rw [h] at h2
    simp at h2
  · intro h
    apply Nat.eq_of_testBit_eq
    intro i
    rw [Nat.zero_testBit, Nat.testBit_and]
    by_cases hi : i < 8
    · have := h i hi
      cases h1 : a.testBit i <;> cases h2 : b.testBit i <;> simp_all
    · rw [pz_tb_hi ha (by omega)]; rfl
theorem pz_not : ∀ b, b < 256 → ∀ i, i < 8 → (nI b ^^^ (-1)).toBitVec.toNat.testBit i = !(b.testBit i) := by decide +kernel
theorem pz_sub0 {a b : Nat} (ha : a < 256) (hb : b < 256) : (nI a &&& (nI b ^^^ (-1)) = 0) ↔ ∀ i, i < 8 → a.testBit i = true → b.testBit i = true := by
  have hn : (nI a &&& (nI b ^^^ (-1))).toBitVec.toNat = a &&& (nI b ^^^ (-1)).toBitVec.toNat := by
    rw [Int32.toBitVec_and, BitVec.toNat_and, pk_tn (by omega)]
  have h0 : (nI a &&& (nI b ^^^ (-1)) = 0) ↔ a &&& (nI b ^^^ (-1)).toBitVec.toNat = 0 := by
    rw [← hn]
    constructor
    · intro h; rw [h]; rfl
    · intro h
      apply Int32.toBitVec_inj.mp
      apply BitVec.eq_of_toNat_eq
      rw [h]; rfl
  rw [h0]
  constructor
  · intro h i hi hai
    have h2 : (a &&& (nI b ^^^ (-1)).toBitVec.toNat).testBit i = false := by rw [h]; simp
    rw [Nat.testBit_and, pz_not b hb i hi, hai] at h2
    simpa using h2
  · intro h
    apply Nat.eq_of_testBit_eq
    intro i
    rw [Nat.zero_testBit, Nat.testBit_and]
    by_cases hi : i < 8
    · rw [pz_not b hb i hi]
      have := h i hi
      cases h1 : a.testBit i <;> cases h2 : b.testBit i <;> simp_all
    · rw [pz_tb_hi ha (by omega)]; rfl
/-- sums up to n -/
def pz_sm (f : Nat → Nat) : Nat → Nat
  | 0 => 0
  | n + 1 => pz_sm f n + f n
theorem pz_sm_le {f : Nat → Nat} {c : Nat} : ∀ {n : Nat}, (∀ k, k < n → f k ≤ c) → pz_sm f n ≤ n * c
  | 0, _ => by simp [pz_sm]
  | n + 1, h => by
    have h1 := pz_sm_le (n := n) (fun k hk => h k (by omega))
    have h2 := h n (by omega)
    rw [pz_sm, Nat.succ_mul]
    omega
theorem pz_sm_cong {f g : Nat → Nat} : ∀ {n : Nat}, (∀ k, k < n → f k = g k) → pz_sm f n = pz_sm g n
  | 0, _ => rfl
  | n + 1, h => by rw [pz_sm, pz_sm, pz_sm_cong (fun k hk => h k (by omega)), h n (by omega)]
theorem pz_sm_mono {f : Nat → Nat} {m n : Nat} (h : m ≤ n) : pz_sm f m ≤ pz_sm f n := by
  induction n with
  | zero => rw [show m = 0 by omega]; exact Nat.le_refl _
  | succ n ih =>
    by_cases h2 : m ≤ n
    · have := ih h2; rw [pz_sm]; omega
    · rw [show m = n + 1 by omega]; exact Nat.le_refl _
/-! the load and the height of a set -/
def pz_on (f : Nat → Nat) (set s : Nat) : Nat := if set.testBit s then f s else 0
def pz_load (W F : Nat → Nat) (ns set : Nat) : Nat := pz_sm (pz_on (fun s => W s + F s) set) ns
def pz_high (T : Nat → Nat) (ns set : Nat) : Nat := pz_sm (pz_on T set) ns
theorem pz_on_le {f : Nat → Nat} {set s c : Nat} (h : f s ≤ c) : pz_on f set s ≤ c := by unfold pz_on; split <;> omega
theorem s_X1_loadOf {ns set : Nat} {W F : Nat → Nat} {weight folk : Nat → Int32} {post : Int32 → Prop} (hn : ns ≤ 8) (hset : set < 256) (hw : ∀ s, s < ns → weight s = nI (W s) ∧ folk s = nI (F s)) (hp : post (nI (pz_load W F ns set))) : f_X1_loadOf (nI ns) weight folk (nI set) post := by
  have key : ∀ k i, i + k = ns → mx_l2 (f_X1_loadOf_4 (nI ns) weight folk post (nI set)) (k + 1) (nI (pz_load W F i set)) (nI i) := by
    intro k
    induction k with
    | zero =>
      intro i hi
      refine ⟨fun _ => ?_, fun c => absurd (nI_le (by omega) (by omega)) c⟩
      rw [show i = ns by omega]
      exact hp
    | succ k ih =>
      intro i hi
      refine ⟨fun c => absurd c (nI_ge (by omega) (by omega)), fun _ => ⟨fun c => ?_, fun c => ?_⟩⟩
      · have hb : set.testBit i = false := by
          cases h : set.testBit i with
          | false => rfl
          | true => exact absurd ((pz_bit set hset i (by omega)).mpr h) c
        have e : pz_load W F (i + 1) set = pz_load W F i set := by simp [pz_load, pz_sm, pz_on, hb]
        have h9 := ih (i + 1) (by omega)
        rw [e] at h9
        rw [nI_1]
        exact h9
      · have hb := (pz_bit set hset i (by omega)).mp c
        refine ⟨vp_in_nI (by omega) (by omega), vp_in_nI (by omega) (by omega), ?_⟩
        have e : pz_load W F (i + 1) set = pz_load W F i set + (W i + F i) := by simp [pz_load, pz_sm, pz_on, hb]
        have h9 := ih (i + 1) (by omega)
        rw [e] at h9
        rw [nI_1, nI_clamp (by omega), (hw i (by omega)).1, (hw i (by omega)).2, nI_add, nI_add]
        exact h9
  exact ⟨ns + 1, key ns 0 (by omega)⟩
