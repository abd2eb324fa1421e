/-! chances -/
def iL (n : Nat) : Int64 := Int64.ofNat n
theorem iL_mul (a b : Nat) : iL a * iL b = iL (a * b) := (Int64.ofNat_mul a b).symm
theorem iL_add (a b : Nat) : iL a + iL b = iL (a + b) := (Int64.ofNat_add a b).symm
theorem iL_sub {a b : Nat} (h : b ≤ a) : iL a - iL b = iL (a - b) := (Int64.ofNat_sub a b h).symm
theorem iL_toInt {n : Nat} (h : n < 2 ^ 63) : (iL n).toInt = n := lg_ofNat_toInt h
theorem iL_inj {a b : Nat} (ha : a < 2 ^ 63) (hb : b < 2 ^ 63) : iL a = iL b ↔ a = b := by
  rw [← Int64.toInt_inj, iL_toInt ha, iL_toInt hb]
  omega
theorem iL_of {n : Nat} (h : n < 2 ^ 31) : (nI n).toInt64 = iL n := by
  apply Int64.toInt_inj.mp
  rw [Int32.toInt_toInt64, nI_toInt h, iL_toInt (by omega)]
theorem iL_div {a b : Nat} (ha : a < 2 ^ 63) (hb : b < 2 ^ 63) (h0 : 0 < b) : iL a / iL b = iL (a / b) := by
  apply Int64.toInt_inj.mp
  rw [lg_ldiv_nonneg (by rw [iL_toInt ha]; omega) (by rw [iL_toInt hb]; omega), iL_toInt ha, iL_toInt hb, iL_toInt (Nat.lt_of_le_of_lt (Nat.div_le_self a b) ha)]
  exact (Int.natCast_ediv a b).symm
theorem iL_mod {a b : Nat} (ha : a < 2 ^ 63) (hb : b < 2 ^ 63) (h0 : 0 < b) : iL a - iL a / iL b * iL b = iL (a % b) := by
  rw [iL_div ha hb h0, iL_mul, iL_sub (Nat.div_mul_le_self a b)]
  congr 1
  have := Nat.div_add_mod a b
  rw [Nat.mul_comm b] at this
  omega
theorem iL_cmp0 {a : Nat} (ha : a < 2 ^ 63) : lg_cmp (iL a) 0 = 0 ↔ a = 0 := by
  rw [lg_cmp_eq]
  exact iL_inj (b := 0) ha (by omega)
theorem iL_n0 {a : Nat} (ha : a < 2 ^ 63) (h : 0 < a) : ¬ iL a = (0 : Int64) := fun z => by
  have := (iL_inj (b := 0) ha (by omega)).mp z
  omega
/-! the shared divisor -/
theorem od_half {u v : Nat} (h : 0 < u % v) : v % (u % v) ≤ v / 2 := by
  rcases Nat.eq_zero_or_pos v with h0 | h0
  · subst h0; simp
  · have h1 := Nat.mod_lt u h0
    have h2 := Nat.mod_lt v h
    by_cases c : u % v ≤ v / 2
    · omega
    · have h3 : v % (u % v) = v - u % v := by
        rw [Nat.mod_eq_sub_mod (by omega), Nat.mod_eq_of_lt (by omega)]
      omega
theorem od_gcd (u v : Nat) : Nat.gcd u v = Nat.gcd v (u % v) := by rw [Nat.gcd_comm, Nat.gcd_rec, Nat.gcd_comm]
theorem s_X4_gcd {post : Int64 → Prop} : ∀ (n u v i : Nat), v < 2 ^ n → u < 2 ^ 63 → v < 2 ^ 63 → i + 2 * n < 200 → post (iL (Nat.gcd u v)) → mx_l3 (f_X4_sharedDivisor_9 post) (2 * n + 1) (iL u) (iL v) (nI i) := by
  intro n
  induction n with
  | zero =>
    intro u v i h1 h2 h3 h4 hp
    have hv : v = 0 := by simp at h1; exact h1
    subst hv
    rw [Nat.gcd_zero_right] at hp
    exact ⟨fun c => absurd c (nI_ge (b := 200) (by omega) (by omega)), fun _ => ⟨fun _ => hp, fun c => absurd ((iL_cmp0 (by omega)).mpr rfl) c⟩⟩
  | succ n ih =>
    intro u v i h1 h2 h3 h4 hp
    rw [show 2 * (n + 1) + 1 = (2 * n + 1) + 1 + 1 by omega]
    refine ⟨fun c => absurd c (nI_ge (b := 200) (by omega) (by omega)), fun _ => ⟨fun c => ?_, fun c => ?_⟩⟩
    · rw [(iL_cmp0 h3).mp c, Nat.gcd_zero_right] at hp
      exact hp
    · have hv : 0 < v := Nat.pos_of_ne_zero (fun z => c ((iL_cmp0 h3).mpr z))
      have hr := Nat.mod_lt u hv
      refine ⟨iL_n0 h3 hv, ?_⟩
      rw [iL_mod h2 h3 hv, nI_1]
      rw [od_gcd] at hp
      refine ⟨fun c => absurd c (nI_ge (b := 200) (by omega) (by omega)), fun _ => ⟨fun c2 => ?_, fun c2 => ?_⟩⟩
      · rw [(iL_cmp0 (by omega)).mp c2, Nat.gcd_zero_right] at hp
        exact hp
      · have hv2 : 0 < u % v := Nat.pos_of_ne_zero (fun z => c2 ((iL_cmp0 (by omega)).mpr z))
        have hh := od_half hv2
        rw [Nat.pow_succ] at h1
        refine ⟨iL_n0 (by omega) hv2, ?_⟩
        rw [iL_mod h3 (by omega) hv2, nI_1]
        rw [od_gcd] at hp
        exact ih _ _ _ (by omega) (by omega) (by omega) (by omega) hp
theorem s_X5_gcd {x4 : Int32} {a b : Int64} {post : Int64 → Prop} : ∀ (n u v : Nat), v < 2 ^ n → u < 2 ^ 63 → v < 2 ^ 63 → f_X5_odds_173 post x4 a b (iL (Nat.gcd u v)) → mx_l2 (f_X5_odds_148 post x4 a b) (2 * n + 1) (iL u) (iL v) := by
  intro n
  induction n with
  | zero =>
    intro u v h1 h2 h3 hp
    have hv : v = 0 := by simp at h1; exact h1
    subst hv
    rw [Nat.gcd_zero_right] at hp
    exact ⟨fun _ => hp, fun c => absurd ((iL_cmp0 (by omega)).mpr rfl) c⟩
  | succ n ih =>
    intro u v h1 h2 h3 hp
    rw [show 2 * (n + 1) + 1 = (2 * n + 1) + 1 + 1 by omega]
    refine ⟨fun c => ?_, fun c => ?_⟩
    · rw [(iL_cmp0 h3).mp c, Nat.gcd_zero_right] at hp
      exact hp
    · have hv : 0 < v := Nat.pos_of_ne_zero (fun z => c ((iL_cmp0 h3).mpr z))
      have hr := Nat.mod_lt u hv
      refine ⟨iL_n0 h3 hv, ?_⟩
      rw [iL_mod h2 h3 hv]
      rw [od_gcd] at hp
      refine ⟨fun c2 => ?_, fun c2 => ?_⟩
      · rw [(iL_cmp0 (by omega)).mp c2, Nat.gcd_zero_right] at hp
        exact hp
      · have hv2 : 0 < u % v := Nat.pos_of_ne_zero (fun z => c2 ((iL_cmp0 (by omega)).mpr z))
        have hh := od_half hv2
        rw [Nat.pow_succ] at h1
        refine ⟨iL_n0 (by omega) hv2, ?_⟩
        rw [iL_mod h3 (by omega) hv2]
        rw [od_gcd] at hp
        exact ih _ _ (by omega) (by omega) (by omega) hp
/-! choices -/
def od_ch (d : Nat) : Nat → Nat
  | 0 => 1
  | j + 1 => od_ch d j * (d - j) / (j + 1)
def od_co (m : Nat) : Nat → Nat
  | 0 => 1
  | i + 1 => od_co m i * (m + (i + 1)) / (i + 1)
theorem od_ch_le : ∀ d, d < 19 → ∀ j, j < 20 → od_ch d j ≤ 48620 := by decide +kernel
theorem od_co_le : ∀ m, m < 19 → ∀ i, i < 19 → od_co m i ≤ 9075135300 := by decide +kernel
theorem od_eq : ∀ d, d < 19 → ∀ j, j < 19 → j ≤ d → od_co (d - j) j = od_ch d j := by decide +kernel
def od_t (d p j : Nat) : Nat := od_ch d j * (10 - p) ^ j * p ^ (d - j)
theorem od_sum : ∀ d, d < 19 → ∀ p, p < 11 → pz_sm (od_t d p) (d + 1) = 10 ^ d := by decide +kernel
def od_u (d k p i : Nat) : Nat := pz_sm (fun j => if k ≤ j then od_t d p j else 0) i
theorem pz_sm_le2 {f g : Nat → Nat} : ∀ {n : Nat}, (∀ k, k < n → f k ≤ g k) → pz_sm f n ≤ pz_sm g n
  | 0, _ => Nat.le_refl _
  | n + 1, h => by
    have h1 := pz_sm_le2 (n := n) (fun k hk => h k (by omega))
    have h2 := h n (by omega)
    rw [pz_sm, pz_sm]; omega
theorem od_10 : ∀ d, d < 19 → 10 ^ d < 2 ^ 60 ∧ 0 < 10 ^ d := by decide +kernel
theorem od_u_lt {d k p : Nat} (hd : d < 19) (hp : p < 11) : od_u d k p (d + 1) < 2 ^ 60 := by
  have h1 : od_u d k p (d + 1) ≤ pz_sm (od_t d p) (d + 1) := pz_sm_le2 (fun j hj => by split <;> omega)
  rw [od_sum d hd p hp] at h1
  have := od_10 d hd
  omega
theorem s_X4_power {b m : Nat} {post : Int64 → Prop} (hb : b < 2 ^ 31) (hm : m < 2 ^ 30) (hp : post (iL (b ^ m))) : f_X4_power (nI b) (nI m) post := by
  have key : ∀ z i, i + z = m → mx_l2 (f_X4_power_5 post (nI b) (nI m)) (z + 1) (iL (b ^ i)) (nI i) := by
    intro z
    induction z with
    | zero =>
      intro i hi
      refine ⟨fun _ => by rw [show i = m by omega]; exact hp, fun c => absurd (nI_le (by omega) (by omega)) c⟩
    | succ z ih =>
      intro i hi
      refine ⟨fun c => absurd c (nI_ge (by omega) (by omega)), fun _ => ?_⟩
      rw [iL_of hb, iL_mul, nI_1, ← Nat.pow_succ]
      exact ih (i + 1) (by omega)
  exact ⟨m + 1, key m 0 (by omega)⟩
theorem s_X5_choose {d j : Nat} {post : Int64 → Prop} (hd : d < 19) (hj : j ≤ d) (hp : post (iL (od_ch d j))) : f_X5_chooseOf (nI d) (nI j) post := by
  rw [← od_eq d hd j (by omega) hj] at hp
  have key : ∀ z i, i + z = j → mx_l2 (f_X5_chooseOf_5 post (nI d) (nI j)) (z + 1) (iL (od_co (d - j) i)) (nI (i + 1)) := by
    intro z
    induction z with
    | zero =>
      intro i hi
      exact ⟨fun _ => by rw [show i = j by omega]; exact hp, fun c => absurd ((nI_ltI (by omega) (by omega)).mpr (by omega)) c⟩
    | succ z ih =>
      intro i hi
      have hb := od_co_le (d - j) (by omega) i (by omega)
      have hc : od_co (d - j) i * (d - j + (i + 1)) ≤ 9075135300 * 40 := Nat.mul_le_mul hb (by omega)
      refine ⟨fun c => absurd ((nI_ltI (by omega) (by omega)).mp c) (by omega), fun _ => ?_⟩
      rw [pk_sub (by omega), nI_add, iL_of (by omega), iL_of (by omega), iL_mul, iL_div (by omega) (by omega) (by omega), nI_1]
      exact ⟨iL_n0 (by omega) (by omega), ih (i + 1) (by omega)⟩
  exact ⟨j + 1, key j 0 (by omega)⟩
theorem od_sub {p : Nat} (h : p < 11) : (10 : Int32) - nI p = nI (10 - p) := pk_sub (a := 10) (by omega)
theorem s_X4_odds {d k p : Nat} {x4 : Int32} {post : Int64 → Prop} (hd : d < 19) (hk : k < 19) (hp : p < 11) (h0 : x4 = 0 → post (iL (od_u d k p (d + 1)) / iL (Nat.gcd (od_u d k p (d + 1)) (10 ^ d)))) (h1 : ¬ x4 = 0 → post (iL (10 ^ d) / iL (Nat.gcd (od_u d k p (d + 1)) (10 ^ d)))) : ∃ N, mx_l3 (f_X4_odds_58 post (nI d) (nI k) (nI p) x4) N 0 1 0 := by
  have hu := od_u_lt (k := k) hd hp
  obtain ⟨ht, ht0⟩ := od_10 d hd
  have hg0 : 0 < Nat.gcd (od_u d k p (d + 1)) (10 ^ d) := Nat.gcd_pos_of_pos_right _ ht0
  have hg1 : Nat.gcd (od_u d k p (d + 1)) (10 ^ d) ≤ 10 ^ d := Nat.le_of_dvd ht0 (Nat.gcd_dvd_right _ _)
  have key : ∀ z i, i + z = d + 1 → mx_l3 (f_X4_odds_58 post (nI d) (nI k) (nI p) x4) (z + 1) (iL (od_u d k p i)) (iL (od_ch d i)) (nI i) := by
    intro z
    induction z with
    | zero =>
      intro i hi
      refine ⟨fun _ => ?_, fun c => absurd ((nI_ltI (by omega) (by omega)).mpr (by omega)) c⟩
      rw [show i = d + 1 by omega]
      refine s_X4_power (b := 10) (by omega) (by omega) ⟨_, s_X4_gcd 60 _ _ 0 ht (by omega) (by omega) (by omega) ⟨fun _ => ⟨fun c => ⟨iL_n0 (by omega) hg0, h1 c⟩, fun c => ⟨iL_n0 (by omega) hg0, h0 c⟩⟩, fun c => absurd ((lg_cmp_ge _ _).mpr ?_) c⟩⟩
      rw [Int64.le_iff_toInt_le, iL_toInt (by omega), show (1 : Int64).toInt = 1 from rfl]
      omega
    | succ z ih =>
      intro i hi
      have hc := od_ch_le d hd i (by omega)
      have hc2 : od_ch d i * (d - i) ≤ 48620 * 20 := Nat.mul_le_mul hc (by omega)
      have go : ∀ a, a = od_u d k p (i + 1) → f_X4_odds_96 (mx_l3 (f_X4_odds_58 post (nI d) (nI k) (nI p) x4) (z + 1)) post (nI d) (nI k) (nI p) x4 (iL a) (iL (od_ch d i)) (nI i) := by
        intro a ha
        unfold f_X4_odds_96
        rw [nI_1, pk_sub (by omega), iL_of (by omega), iL_of (by omega), iL_mul, iL_div (by omega) (by omega) (by omega), ha]
        exact ⟨iL_n0 (by omega) (by omega), ih (i + 1) (by omega)⟩
      refine ⟨fun c => absurd ((nI_ltI (by omega) (by omega)).mp c) (by omega), fun _ => ?_⟩
      rw [nI_ltI (by omega) (by omega), od_sub hp, pk_sub (by omega)]
      refine ⟨fun c => go _ ?_, fun c => s_X4_power (by omega) (by omega) (s_X4_power (by omega) (by omega) ?_)⟩
      · rw [od_u, od_u, pz_sm, if_neg (by omega)]; rfl
      · rw [iL_mul, iL_mul, iL_add]
        refine go _ ?_
        rw [od_u, od_u, pz_sm, if_pos (by omega)]
        rfl
  exact ⟨_, key (d + 1) 0 (by omega)⟩
theorem s_X5_odds {d k p : Nat} {x4 : Int32} {post : Int64 → Prop} (hd : d < 19) (hk : k < 19) (hp : p < 11) (h0 : x4 = 0 → post (iL (od_u d k p (d + 1)) / iL (Nat.gcd (od_u d k p (d + 1)) (10 ^ d)))) (h1 : ¬ x4 = 0 → post (iL (10 ^ d) / iL (Nat.gcd (od_u d k p (d + 1)) (10 ^ d)))) : ∃ N, mx_l2 (f_X5_odds_50 post (nI d) (nI p) x4) N 0 (nI k) := by
  have hu := od_u_lt (k := k) hd hp
  obtain ⟨ht, ht0⟩ := od_10 d hd
  have hg0 : 0 < Nat.gcd (od_u d k p (d + 1)) (10 ^ d) := Nat.gcd_pos_of_pos_right _ ht0
  have hg1 : Nat.gcd (od_u d k p (d + 1)) (10 ^ d) ≤ 10 ^ d := Nat.le_of_dvd ht0 (Nat.gcd_dvd_right _ _)
  have fin : f_X5_odds_114 post (nI d) x4 (iL (od_u d k p (d + 1))) := by
    have k2 : ∀ z i, i + z = d → mx_l2 (f_X5_odds_120 post (nI d) x4 (iL (od_u d k p (d + 1)))) (z + 1) (iL (10 ^ i)) (nI i) := by
      intro z
      induction z with
      | zero =>
        intro i hi
        refine ⟨fun _ => ?_, fun c => absurd (nI_le (by omega) (by omega)) c⟩
        rw [show i = d by omega]
        exact ⟨_, s_X5_gcd 60 _ _ ht (by omega) (by omega) ⟨fun c => ⟨iL_n0 (by omega) hg0, h1 c⟩, fun c => ⟨iL_n0 (by omega) hg0, h0 c⟩⟩⟩
      | succ z ih =>
        intro i hi
        refine ⟨fun c => absurd c (nI_ge (by omega) (by omega)), fun _ => ?_⟩
        rw [show (10 : Int64) = iL 10 from rfl, iL_mul, nI_1, ← Nat.pow_succ]
        exact ih (i + 1) (by omega)
    exact ⟨_, k2 d 0 (by omega)⟩
  have key : ∀ z i, k ≤ i → i + z = d + 1 → mx_l2 (f_X5_odds_50 post (nI d) (nI p) x4) (z + 1) (iL (od_u d k p i)) (nI i) := by
    intro z
    induction z with
    | zero =>
      intro i hki hi
      refine ⟨fun _ => by rw [show i = d + 1 by omega]; exact fin, fun c => absurd ((nI_ltI (by omega) (by omega)).mpr (by omega)) c⟩
    | succ z ih =>
      intro i hki hi
      refine ⟨fun c => absurd ((nI_ltI (by omega) (by omega)).mp c) (by omega), fun _ => s_X5_choose hd (by omega) ⟨d + 1, ?_⟩⟩
      have k3 : ∀ y t, t + y = d → mx_l2 (f_X5_odds_67 (mx_l2 (f_X5_odds_50 post (nI d) (nI p) x4) (z + 1)) post (nI d) (nI p) x4 (iL (od_u d k p i)) (nI i)) (y + 1) (iL (od_ch d i * (10 - p) ^ (min t i) * p ^ (t - i))) (nI t) := by
        intro y
        induction y with
        | zero =>
          intro t ht
          refine ⟨fun _ => ?_, fun c => absurd (nI_le (by omega) (by omega)) c⟩
          show mx_l2 _ _ _ _
          rw [iL_add, nI_1]
          have := ih (i + 1) (by omega) (by omega)
          rw [od_u, pz_sm, if_pos hki] at this
          rw [show min t i = i by omega, show t = d by omega]
          exact this
        | succ y ih2 =>
          intro t ht
          have := ih2 (t + 1) (by omega)
          refine ⟨fun c => absurd c (nI_ge (by omega) (by omega)), fun _ => ?_⟩
          rw [nI_leI (by omega) (by omega)]
          refine ⟨fun c => ?_, fun c => ?_⟩
          · show mx_l2 _ _ _ _
            rw [iL_of (by omega), iL_mul, nI_1, Nat.mul_assoc _ _ p, ← Nat.pow_succ]
            rw [show min (t + 1) i = min t i by omega, show t + 1 - i = (t - i) + 1 by omega] at this
            exact this
          · show mx_l2 _ _ _ _
            rw [od_sub hp, iL_of (by omega), iL_mul, nI_1, show t - i = 0 by omega, Nat.pow_zero, Nat.mul_one, Nat.mul_assoc, ← Nat.pow_succ]
            rw [show min (t + 1) i = min t i + 1 by omega, show t + 1 - i = 0 by omega, Nat.pow_zero, Nat.mul_one] at this
            exact this
      have := k3 d 0 (by omega)
      rw [show min 0 i = 0 by omega, show 0 - i = 0 by omega, Nat.pow_zero, Nat.pow_zero, Nat.mul_one, Nat.mul_one] at this
      exact this
  have hk0 : ∀ i, i ≤ k → od_u d k p i = 0 := fun i hi => pz_sm_zero i (fun j hj => by rw [if_neg (by omega)])
  by_cases hc : k ≤ d + 1
  · have := key (d + 1 - k) k (Nat.le_refl _) (by omega)
    rw [hk0 k (Nat.le_refl _)] at this
    exact ⟨_, this⟩
  · refine ⟨1, fun _ => ?_, fun c => absurd ((nI_ltI (by omega) (by omega)).mpr (by omega)) c⟩
    have := fin
    rw [hk0 (d + 1) (by omega)] at this
    rw [hk0 (d + 1) (by omega)] at fin
    exact this
