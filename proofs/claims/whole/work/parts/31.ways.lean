/-! ways of coming to be up: counted forward and backward -/
theorem pz_sm_plus (f g : Nat → Nat) : ∀ n, pz_sm (fun k => f k + g k) n = pz_sm f n + pz_sm g n
  | 0 => rfl
  | n + 1 => by simp only [pz_sm, pz_sm_plus f g n]; omega
theorem pz_sm_mul (c : Nat) (f : Nat → Nat) : ∀ n, pz_sm (fun k => c * f k) n = c * pz_sm f n
  | 0 => by simp [pz_sm]
  | n + 1 => by simp only [pz_sm, pz_sm_mul c f n, Nat.mul_add]
theorem pz_sm_zero {f : Nat → Nat} : ∀ n, (∀ k, k < n → f k = 0) → pz_sm f n = 0
  | 0, _ => rfl
  | n + 1, h => by rw [pz_sm, pz_sm_zero n (fun k hk => h k (by omega)), h n (by omega)]
theorem pz_sm_pos {f : Nat → Nat} : ∀ {n : Nat}, 0 < pz_sm f n → ∃ k, k < n ∧ 0 < f k
  | 0, h => absurd h (by simp [pz_sm])
  | n + 1, h => by
    by_cases h2 : 0 < f n
    · exact ⟨n, by omega, h2⟩
    · rw [pz_sm] at h
      obtain ⟨k, h3, h4⟩ := pz_sm_pos (f := f) (n := n) (by omega)
      exact ⟨k, by omega, h4⟩
theorem pz_sm_ge {f : Nat → Nat} : ∀ {n k : Nat}, k < n → f k ≤ pz_sm f n
  | 0, _, h => absurd h (by omega)
  | n + 1, k, h => by
    rw [pz_sm]
    rcases Nat.lt_or_ge k n with h1 | h1
    · have := pz_sm_ge (f := f) h1; omega
    · rw [show k = n by omega]; omega
theorem cw_bit_le {b s : Nat} (h : b.testBit s = true) : 2 ^ s ≤ b := by
  rcases Nat.lt_or_ge b (2 ^ s) with h1 | h1
  · rw [Nat.testBit_lt_two_pow h1] at h; cases h
  · exact h1
theorem cw_up0 : ∀ a, a < 256 → ∀ s, s < 8 → a.testBit s = false → a ||| 2 ^ s = a + 2 ^ s ∧ (a + 2 ^ s).testBit s = true := by decide +kernel
theorem cw_up (n : Nat) (hn : n < 9) (a : Nat) (ha : a < 2 ^ n) (s : Nat) (hs : s < n) (h : a.testBit s = false) : a ||| 2 ^ s = a + 2 ^ s ∧ a + 2 ^ s < 2 ^ n ∧ (a + 2 ^ s).testBit s = true := by
  have h256 := (pz_all_lt n hn).2.1
  obtain ⟨h1, h2⟩ := cw_up0 a (by omega) s (by omega) h
  refine ⟨h1, ?_, h2⟩
  rw [← h1]
  exact Nat.or_lt_two_pow ha (Nat.pow_lt_pow_right (by omega) hs)
theorem cw_pcd : ∀ a, a < 256 → ∀ s, s < 8 → a.testBit s = true → pz_pc (a - 2 ^ s) + 1 = pz_pc a := by decide +kernel
theorem cw_pcu : ∀ a, a < 256 → ∀ s, s < 8 → a.testBit s = false → pz_pc (a ||| 2 ^ s) = pz_pc a + 1 := by decide +kernel
theorem cw_pca : ∀ n, n < 9 → pz_pc (2 ^ n - 1) = n := by decide +kernel
theorem cw_bf : ∀ a, a < 256 → ∀ s, s < 8 → a.testBit s = true → (a - 2 ^ s).testBit s = false ∧ (a - 2 ^ s) ||| 2 ^ s = a := by decide +kernel
section CW
variable {ns : Nat} {e : Nat → Nat → Bool}
def cw_f (e : Nat → Nat → Bool) (ns : Nat) : Nat → Nat → Nat
  | 0, _ => 0
  | k + 1, b => (if b = 0 then 1 else 0) + pz_sm (fun s => if b.testBit s = true ∧ e s (b - 2 ^ s) = true then cw_f e ns k (b - 2 ^ s) else 0) ns
def cw_F (e : Nat → Nat → Bool) (ns b : Nat) : Nat := cw_f e ns (b + 1) b
theorem cw_f_eq (k b : Nat) (h : b < k) : cw_f e ns k b = cw_F e ns b := by
  have key : ∀ k k' b, b < k → b < k' → cw_f e ns k b = cw_f e ns k' b := by
    intro k
    induction k with
    | zero => intro k' b h; omega
    | succ k ih =>
      intro k' b h h'
      cases k' with
      | zero => omega
      | succ k' =>
        rw [cw_f, cw_f]
        congr 1
        refine pz_sm_cong (fun s hs => ?_)
        by_cases c : b.testBit s = true ∧ e s (b - 2 ^ s) = true
        · have := cw_bit_le c.1
          have p := Nat.two_pow_pos s
          simp only [if_pos c]
          exact ih k' _ (by omega) (by omega)
        · simp only [if_neg c]
  exact key k (b + 1) b h (by omega)
theorem cw_F_eq (b : Nat) : cw_F e ns b = (if b = 0 then 1 else 0) + pz_sm (fun s => if b.testBit s = true ∧ e s (b - 2 ^ s) = true then cw_F e ns (b - 2 ^ s) else 0) ns := by
  show cw_f e ns (b + 1) b = _
  rw [cw_f]
  congr 1
  refine pz_sm_cong (fun s hs => ?_)
  by_cases c : b.testBit s = true ∧ e s (b - 2 ^ s) = true
  · have := cw_bit_le c.1
    have p := Nat.two_pow_pos s
    simp only [if_pos c]
    exact cw_f_eq _ _ (by omega)
  · simp only [if_neg c]
theorem cw_F_le (hn : ns ≤ 8) : ∀ (m b : Nat), b < m → b < 256 → cw_F e ns b ≤ 8 ^ pz_pc b := by
  intro m
  induction m with
  | zero => intro b h; omega
  | succ m ih =>
    intro b hb hb2
    rw [cw_F_eq]
    by_cases h0 : b = 0
    · subst h0
      rw [if_pos rfl, pz_sm_zero ns (fun k hk => by simp)]
      exact Nat.pos_of_ne_zero (by simp)
    · rw [if_neg h0]
      by_cases hp : pz_pc b = 0
      · rw [pz_sm_zero ns (fun k hk => ?_)]
        · exact Nat.zero_le _
        · by_cases c : b.testBit k = true
          · have := cw_pcd b hb2 k (by omega) c; omega
          · simp [c]
      · obtain ⟨q, hq⟩ : ∃ q, pz_pc b = q + 1 := ⟨pz_pc b - 1, by omega⟩
        have := pz_sm_le (f := fun s => if b.testBit s = true ∧ e s (b - 2 ^ s) = true then cw_F e ns (b - 2 ^ s) else 0) (c := 8 ^ q) (n := ns) (fun k hk => by
          by_cases c : b.testBit k = true ∧ e k (b - 2 ^ k) = true
          · simp only [if_pos c]
            have h1 := cw_bit_le c.1
            have p := Nat.two_pow_pos k
            have h2 := cw_pcd b hb2 k (by omega) c.1
            have h3 := ih (b - 2 ^ k) (by omega) (by omega)
            rw [show pz_pc (b - 2 ^ k) = q by omega] at h3
            exact h3
          · simp only [if_neg c]; exact Nat.zero_le _)
        have h4 : ns * 8 ^ q ≤ 8 * 8 ^ q := Nat.mul_le_mul_right _ hn
        rw [hq, Nat.pow_succ]
        omega
theorem cw_F_lt (hn : ns ≤ 8) {b : Nat} (hb : b < 256) : cw_F e ns b < 2 ^ 31 := by
  have h1 := cw_F_le (e := e) hn (b + 1) b (by omega) hb
  have h2 : 8 ^ pz_pc b ≤ 8 ^ 8 := Nat.pow_le_pow_right (by omega) (pz_pc_le b)
  omega
/-! backward -/
def cw_b (e : Nat → Nat → Bool) (ns : Nat) : Nat → Nat → Nat
  | 0, _ => 0
  | k + 1, a => if a + 1 = 2 ^ ns then 1 else pz_sm (fun s => if e s a = true then cw_b e ns k (a ||| 2 ^ s) else 0) ns
def cw_B (e : Nat → Nat → Bool) (ns a : Nat) : Nat := cw_b e ns (2 ^ ns - a) a
def cw_ok (e : Nat → Nat → Bool) (ns : Nat) : Prop := ∀ s a, s < ns → a < 2 ^ ns → e s a = true → a.testBit s = false
theorem cw_b_eq (hn : ns ≤ 8) (he : cw_ok e ns) (k a : Nat) (ha : a < 2 ^ ns) (h : 2 ^ ns - a ≤ k) : cw_b e ns k a = cw_B e ns a := by
  have key : ∀ k k' a, a < 2 ^ ns → 2 ^ ns - a ≤ k → 2 ^ ns - a ≤ k' → cw_b e ns k a = cw_b e ns k' a := by
    intro k
    induction k with
    | zero => intro k' a h; omega
    | succ k ih =>
      intro k' a ha h h'
      cases k' with
      | zero => omega
      | succ k' =>
        rw [cw_b, cw_b]
        congr 1
        refine pz_sm_cong (fun s hs => ?_)
        by_cases c : e s a = true
        · obtain ⟨u1, u2, u3⟩ := cw_up ns (by omega) a ha s hs (he s a hs ha c)
          have p := Nat.two_pow_pos s
          simp only [if_pos c, u1]
          exact ih k' _ u2 (by omega) (by omega)
        · simp only [if_neg c]
  exact key k _ a ha h (by omega)
theorem cw_B_eq (hn : ns ≤ 8) (he : cw_ok e ns) {a : Nat} (ha : a + 1 < 2 ^ ns) : cw_B e ns a = pz_sm (fun s => if e s a = true then cw_B e ns (a ||| 2 ^ s) else 0) ns := by
  unfold cw_B
  rw [show 2 ^ ns - a = (2 ^ ns - a - 1) + 1 by omega, cw_b, if_neg (by omega)]
  refine pz_sm_cong (fun s hs => ?_)
  by_cases c : e s a = true
  · obtain ⟨u1, u2, u3⟩ := cw_up ns (by omega) a (by omega) s hs (he s a hs (by omega) c)
    have p := Nat.two_pow_pos s
    simp only [if_pos c, u1]
    exact cw_b_eq hn he _ _ u2 (by omega)
  · simp only [if_neg c]
theorem cw_B_all (hn : ns ≤ 8) : cw_B e ns (2 ^ ns - 1) = 1 := by
  have := (pz_all_lt ns (by omega)).2.2
  unfold cw_B
  rw [show 2 ^ ns - (2 ^ ns - 1) = 0 + 1 by omega, cw_b, if_pos (by omega)]
theorem cw_B_le (hn : ns ≤ 8) (he : cw_ok e ns) : ∀ (m a : Nat), 2 ^ ns - a ≤ m → a < 2 ^ ns → cw_B e ns a ≤ 8 ^ (8 - pz_pc a) := by
  have h256 := (pz_all_lt ns (by omega)).2.1
  intro m
  induction m with
  | zero => intro a h; omega
  | succ m ih =>
    intro a h ha
    by_cases c0 : a + 1 = 2 ^ ns
    · rw [show a = 2 ^ ns - 1 by omega, cw_B_all hn]
      exact Nat.pos_of_ne_zero (by simp)
    · rw [cw_B_eq hn he (by omega)]
      by_cases hp : pz_pc a = 8
      · rw [pz_sm_zero ns (fun k hk => ?_)]
        · exact Nat.zero_le _
        · by_cases c : e k a = true
          · have := cw_pcu a (by omega) k (by omega) (he k a hk ha c)
            have := pz_pc_le (a ||| 2 ^ k)
            omega
          · simp [c]
      · have hp2 := pz_pc_le a
        obtain ⟨q, hq⟩ : ∃ q, 8 - pz_pc a = q + 1 := ⟨7 - pz_pc a, by omega⟩
        have := pz_sm_le (f := fun s => if e s a = true then cw_B e ns (a ||| 2 ^ s) else 0) (c := 8 ^ q) (n := ns) (fun k hk => by
          by_cases c : e k a = true
          · simp only [if_pos c]
            obtain ⟨u1, u2, u3⟩ := cw_up ns (by omega) a ha k hk (he k a hk ha c)
            have p := Nat.two_pow_pos k
            have h2 := cw_pcu a (by omega) k (by omega) (he k a hk ha c)
            rw [u1] at h2 ⊢
            have h3 := ih (a + 2 ^ k) (by omega) u2
            rw [show 8 - pz_pc (a + 2 ^ k) = q by omega] at h3
            exact h3
          · simp only [if_neg c]; exact Nat.zero_le _)
        have h4 : ns * 8 ^ q ≤ 8 * 8 ^ q := Nat.mul_le_mul_right _ hn
        rw [hq, Nat.pow_succ]
        omega
theorem cw_B_lt (hn : ns ≤ 8) (he : cw_ok e ns) {a : Nat} (ha : a < 2 ^ ns) : cw_B e ns a < 2 ^ 31 := by
  have h1 := cw_B_le hn he _ a (Nat.le_refl _) ha
  have h2 : 8 ^ (8 - pz_pc a) ≤ 8 ^ 8 := Nat.pow_le_pow_right (by omega) (by omega)
  omega
/-! passed on -/
def cw_G (e : Nat → Nat → Bool) (ns m b : Nat) : Nat := (if b = 0 then 1 else 0) + pz_sm (fun s => if b.testBit s = true ∧ e s (b - 2 ^ s) = true ∧ b - 2 ^ s < m then cw_F e ns (b - 2 ^ s) else 0) ns
def cw_H (e : Nat → Nat → Bool) (ns m t b : Nat) : Nat := cw_G e ns m b + pz_sm (fun s => if b.testBit s = true ∧ e s m = true ∧ b - 2 ^ s = m then cw_F e ns m else 0) t
theorem cw_G_le {m b : Nat} (h : b ≤ m) : cw_G e ns m b = cw_F e ns b := by
  rw [cw_F_eq, cw_G]
  congr 1
  refine pz_sm_cong (fun s hs => ?_)
  by_cases c : b.testBit s = true ∧ e s (b - 2 ^ s) = true
  · have := cw_bit_le c.1
    have p := Nat.two_pow_pos s
    simp only [if_pos c]
    rw [if_pos ⟨c.1, c.2, by omega⟩]
  · simp only [if_neg c]
    rw [if_neg (fun z => c ⟨z.1, z.2.1⟩)]
theorem cw_H_ns (m b : Nat) : cw_H e ns m ns b = cw_G e ns (m + 1) b := by
  unfold cw_H cw_G
  rw [Nat.add_assoc, ← pz_sm_plus]
  congr 1
  refine pz_sm_cong (fun s hs => ?_)
  by_cases c : b.testBit s = true
  · by_cases c2 : b - 2 ^ s = m
    · subst c2
      by_cases c3 : e s (b - 2 ^ s) = true
      · simp [c, c3]
      · simp [c3]
    · by_cases c4 : b - 2 ^ s < m
      · simp [c, c2, c4, show b - 2 ^ s < m + 1 by omega]
      · simp [c2, c4, show ¬ b - 2 ^ s < m + 1 by omega]
  · simp [c]
theorem cw_G_0 (b : Nat) : cw_G e ns 0 b = if b = 0 then 1 else 0 := by
  unfold cw_G
  rw [pz_sm_zero ns (fun k hk => by simp)]
  omega
theorem cw_H_z {m t b : Nat} (h : cw_F e ns m = 0) : cw_H e ns m t b = cw_G e ns m b := by
  unfold cw_H
  rw [pz_sm_zero t (fun k hk => by simp [h])]
  omega
theorem cw_H_m (m t : Nat) : cw_H e ns m t m = cw_F e ns m := by
  unfold cw_H
  rw [pz_sm_zero t (fun k hk => ?_), cw_G_le (Nat.le_refl m)]
  · omega
  · rw [if_neg]
    intro z
    have := cw_bit_le z.1
    have p := Nat.two_pow_pos k
    omega
theorem cw_H_at (hn : ns ≤ 8) (he : cw_ok e ns) {m t : Nat} (hm : m < 2 ^ ns) (ht : t < ns) (h : e t m = true) : cw_H e ns m (t + 1) (m + 2 ^ t) = cw_H e ns m t (m + 2 ^ t) + cw_F e ns m := by
  obtain ⟨u1, u2, u3⟩ := cw_up ns (by omega) m hm t ht (he t m ht hm h)
  unfold cw_H
  rw [pz_sm, if_pos ⟨u3, h, by omega⟩]
  omega
theorem cw_H_ne {m t b : Nat} (h : b ≠ m + 2 ^ t ∨ e t m = false) : cw_H e ns m (t + 1) b = cw_H e ns m t b := by
  unfold cw_H
  rw [pz_sm, if_neg]
  · omega
  · intro z
    have := cw_bit_le z.1
    rcases h with h | h
    · omega
    · rw [h] at z; exact absurd z.2.1 (by simp)
/-- what passes through the sets from m on -/
theorem cw_step (hn : ns ≤ 8) (he : cw_ok e ns) {m : Nat} (hm : m < 2 ^ ns) (t : Nat) (ht : t ≤ ns) : pz_sm (fun b => if m + 1 ≤ b then cw_H e ns m t b * cw_B e ns b else 0) (2 ^ ns) = pz_sm (fun b => if m + 1 ≤ b then cw_G e ns m b * cw_B e ns b else 0) (2 ^ ns) + cw_F e ns m * pz_sm (fun s => if e s m = true then cw_B e ns (m ||| 2 ^ s) else 0) t := by
  induction t with
  | zero => simp [pz_sm, cw_H]
  | succ t ih =>
    have ih := ih (by omega)
    rw [pz_sm]
    by_cases c : e t m = true
    · obtain ⟨u1, u2, u3⟩ := cw_up ns (by omega) m hm t (by omega) (he t m (by omega) hm c)
      have p := Nat.two_pow_pos t
      have := pz_sm_add1 (f := fun b => if m + 1 ≤ b then cw_H e ns m t b * cw_B e ns b else 0) (g := fun b => if m + 1 ≤ b then cw_H e ns m (t + 1) b * cw_B e ns b else 0) (j := m + 2 ^ t) u2 (fun k hk hne => by
        simp only [cw_H_ne (e := e) (ns := ns) (Or.inl hne)])
      simp only [show m + 1 ≤ m + 2 ^ t by omega, if_true] at this
      rw [cw_H_at hn he hm (by omega) c, Nat.add_mul] at this
      rw [if_pos c, u1, Nat.mul_add]
      omega
    · have e0 : pz_sm (fun b => if m + 1 ≤ b then cw_H e ns m (t + 1) b * cw_B e ns b else 0) (2 ^ ns) = pz_sm (fun b => if m + 1 ≤ b then cw_H e ns m t b * cw_B e ns b else 0) (2 ^ ns) := pz_sm_cong (fun k hk => by
        simp only [cw_H_ne (e := e) (ns := ns) (m := m) (t := t) (b := k) (Or.inr (pz_tf c))])
      rw [e0, ih, if_neg c]
      rfl
theorem cw_cut (hn : ns ≤ 8) (he : cw_ok e ns) : ∀ m, m < 2 ^ ns → pz_sm (fun b => if m ≤ b then cw_G e ns m b * cw_B e ns b else 0) (2 ^ ns) = cw_B e ns 0 := by
  have hN := (pz_all_lt ns (by omega)).2.2
  intro m
  induction m with
  | zero =>
    intro _
    have := pz_sm_add1 (f := fun _ => 0) (g := fun b => if 0 ≤ b then cw_G e ns 0 b * cw_B e ns b else 0) (j := 0) hN (fun k hk hne => by
      simp only [cw_G_0, if_neg hne]; simp)
    simp only [cw_G_0] at this ⊢
    rw [pz_sm_zero (f := fun _ => 0) (2 ^ ns) (fun k hk => rfl)] at this
    simpa using this
  | succ m ih =>
    intro hm
    have ih := ih (by omega)
    have h1 := cw_step hn he (m := m) (by omega) ns (Nat.le_refl _)
    rw [← cw_B_eq hn he (by omega)] at h1
    simp only [cw_H_ns] at h1
    rw [h1, ← ih]
    have := pz_sm_add1 (f := fun b => if m + 1 ≤ b then cw_G e ns m b * cw_B e ns b else 0) (g := fun b => if m ≤ b then cw_G e ns m b * cw_B e ns b else 0) (j := m) (ns := 2 ^ ns) (by omega) (fun k hk hne => by
      by_cases c : m ≤ k
      · simp only [if_pos c, if_pos (show m + 1 ≤ k by omega)]
      · simp only [if_neg c, if_neg (show ¬ m + 1 ≤ k by omega)])
    simp only [Nat.le_refl, if_true, show ¬ m + 1 ≤ m by omega, if_false, cw_G_le (e := e) (ns := ns) (Nat.le_refl m)] at this
    omega
theorem cw_main (hn : ns ≤ 8) (he : cw_ok e ns) : cw_F e ns (2 ^ ns - 1) = cw_B e ns 0 := by
  have hN := (pz_all_lt ns (by omega)).2.2
  have h := cw_cut hn he (2 ^ ns - 1) (by omega)
  have := pz_sm_add1 (f := fun _ => 0) (g := fun b => if 2 ^ ns - 1 ≤ b then cw_G e ns (2 ^ ns - 1) b * cw_B e ns b else 0) (j := 2 ^ ns - 1) (ns := 2 ^ ns) (by omega) (fun k hk hne => by
    simp only [if_neg (show ¬ 2 ^ ns - 1 ≤ k by omega)])
  rw [pz_sm_zero (f := fun _ => 0) (2 ^ ns) (fun k hk => rfl), h] at this
  simp only [Nat.le_refl, if_true, cw_G_le (e := e) (ns := ns) (Nat.le_refl (2 ^ ns - 1)), cw_B_all hn, Nat.mul_one] at this
  omega
end CW
