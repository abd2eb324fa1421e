/-! the text's tokens -/
def rz_run (c : Nat → Nat) (tl lo hi : Nat) : Nat → Nat → Nat
  | 0, p => p
  | z + 1, p => if lo ≤ c p ∧ c p ≤ hi then rz_run c tl lo hi z (p + 1) else p
def rz_e (c : Nat → Nat) (tl lo hi p : Nat) : Nat := rz_run c tl lo hi (tl - p) p
def rz_in (c : Nat → Nat) (tl p lo hi : Nat) : Bool := decide (p < tl) && (decide (lo ≤ c p) && decide (c p ≤ hi))
def rz_s (c : Nat → Nat) (tl e : Nat) : Nat := rz_e c tl 32 32 e
def rz_t (c : Nat → Nat) (tl e : Nat) : Nat := if rz_in c tl (rz_s c tl e) 97 122 = true then rz_e c tl 97 122 (rz_s c tl e) else if rz_in c tl (rz_s c tl e) 48 57 = true then rz_e c tl 48 57 (rz_s c tl e) else min (rz_s c tl e + 1) tl
def rz_vl (c : Nat → Nat) (s : Nat) : Nat → Nat
  | 0 => 0
  | m + 1 => 10 * rz_vl c s m + (c (s + m) - 48)
def rz_v (c : Nat → Nat) (tl e : Nat) : Nat := rz_vl c (rz_s c tl e) (rz_t c tl e - rz_s c tl e)
def rz_isn (c : Nat → Nat) (tl e : Nat) : Prop := rz_in c tl (rz_s c tl e) 48 57 = true ∧ rz_t c tl e - rz_s c tl e ≤ 3
def rz_cd (c : Nat → Nat) (s : Nat) : Nat → Nat
  | 0 => 0
  | m + 1 => 27 * rz_cd c s m + (c (s + m) - 96)
def rz_wd : Nat → List Nat
  | 0 => [114, 111, 111, 109]
  | 1 => [114, 111, 111, 102]
  | 2 => [99, 101, 108, 108, 97, 114]
  | 3 => [98, 101, 108, 108, 115]
  | 4 => [102, 111, 108, 107]
  | 5 => [106, 97, 99, 107, 115]
  | 6 => [115, 111, 102, 116]
  | 7 => [119, 105, 110, 100]
  | 8 => [97, 98, 111, 118, 101]
  | _ => [115, 105, 116, 101]
def rz_code : Nat → Nat
  | 0 => 365647
  | 1 => 365640
  | 2 => 45948915
  | 3 => 1170388
  | 4 => 129368
  | 5 => 5336596
  | 6 => 385094
  | 7 => 459652
  | 8 => 582341
  | _ => 381083
def rz_W (c : Nat → Nat) (tl e k : Nat) : Prop := rz_t c tl e - rz_s c tl e = (rz_wd k).length ∧ ∀ i, i < (rz_wd k).length → c (rz_s c tl e + i) = (rz_wd k).getD i 0
def rz_semi (c : Nat → Nat) (tl e : Nat) : Prop := rz_s c tl e < tl ∧ c (rz_s c tl e) = 59
theorem rz_wd_len : ∀ k, k < 10 → 4 ≤ (rz_wd k).length ∧ (rz_wd k).length ≤ 6 ∧ (mx_sw k).length = (rz_wd k).length ∧ Int32.ofNat (mx_sw k).length >>> ((0 : Int32) &&& 31) = nI (rz_wd k).length := by decide +kernel
theorem rz_wd_ch : ∀ k, k < 10 → ∀ i, i < 6 → mx_ch ((mx_sw k).getD i 0) = nI ((rz_wd k).getD i 0) := by decide +kernel
theorem rz_wd_ab : ∀ k, k < 10 → ∀ i, i < (rz_wd k).length → 97 ≤ (rz_wd k).getD i 0 ∧ (rz_wd k).getD i 0 ≤ 122 := by decide +kernel
theorem rz_wd_cd : ∀ k, k < 10 → rz_cd (fun i => (rz_wd k).getD i 0) 0 (rz_wd k).length = rz_code k := by decide +kernel
theorem rz_code_ne : ∀ j, j < 10 → ∀ k, k < 10 → rz_code j = rz_code k → j = k := by decide +kernel
theorem rz_code_lt : ∀ k, k < 10 → rz_code k < 2 ^ 31 := by decide +kernel
section RZ
variable {c : Nat → Nat} {tl : Nat} {xby mt : Nat → Int32}
theorem rz_in_iff {p lo hi : Nat} : rz_in c tl p lo hi = true ↔ p < tl ∧ lo ≤ c p ∧ c p ≤ hi := by
  unfold rz_in
  rw [Bool.and_eq_true, Bool.and_eq_true, decide_eq_true_eq, decide_eq_true_eq, decide_eq_true_eq]
theorem rz_run_ok {lo hi : Nat} : ∀ z p, p + z = tl → p ≤ rz_run c tl lo hi z p ∧ rz_run c tl lo hi z p ≤ tl ∧ (∀ q, p ≤ q → q < rz_run c tl lo hi z p → lo ≤ c q ∧ c q ≤ hi)
  | 0, p, h => ⟨Nat.le_refl _, by rw [rz_run]; omega, fun q h1 h2 => absurd h2 (by rw [rz_run]; omega)⟩
  | z + 1, p, h => by
    rw [rz_run]
    by_cases c1 : lo ≤ c p ∧ c p ≤ hi
    · rw [if_pos c1]
      obtain ⟨h1, h2, h3⟩ := rz_run_ok (lo := lo) (hi := hi) z (p + 1) (by omega)
      refine ⟨by omega, h2, fun q a b => ?_⟩
      rcases Nat.eq_or_lt_of_le a with e | e
      · rw [← e]; exact c1
      · exact h3 q e b
    · rw [if_neg c1]
      exact ⟨Nat.le_refl _, by omega, fun q a b => absurd b (by omega)⟩
theorem rz_s_le {e : Nat} (h : e ≤ tl) : e ≤ rz_s c tl e ∧ rz_s c tl e ≤ tl := by
  obtain ⟨h1, h2, -⟩ := rz_run_ok (c := c) (tl := tl) (lo := 32) (hi := 32) (tl - e) e (by omega)
  exact ⟨h1, h2⟩
theorem rz_run_gt {lo hi z p : Nat} (h : p + z = tl) (hi2 : rz_in c tl p lo hi = true) : p < rz_run c tl lo hi z p := by
  obtain ⟨h1, h2, h3⟩ := rz_in_iff.mp hi2
  cases z with
  | zero => omega
  | succ z =>
    rw [rz_run, if_pos ⟨h2, h3⟩]
    have := (rz_run_ok (c := c) (tl := tl) (lo := lo) (hi := hi) z (p + 1) (by omega)).1
    omega
theorem rz_t_le {e : Nat} (h : e ≤ tl) : rz_s c tl e ≤ rz_t c tl e ∧ rz_t c tl e ≤ tl ∧ (rz_s c tl e < tl → rz_s c tl e < rz_t c tl e) := by
  obtain ⟨h1, h2⟩ := rz_s_le (c := c) h
  unfold rz_t
  by_cases c1 : rz_in c tl (rz_s c tl e) 97 122 = true
  · rw [if_pos c1]
    obtain ⟨h3, h4, -⟩ := rz_run_ok (c := c) (tl := tl) (lo := 97) (hi := 122) (tl - rz_s c tl e) (rz_s c tl e) (by omega)
    exact ⟨h3, h4, fun _ => rz_run_gt (by omega) c1⟩
  · rw [if_neg c1]
    by_cases c2 : rz_in c tl (rz_s c tl e) 48 57 = true
    · rw [if_pos c2]
      obtain ⟨h3, h4, -⟩ := rz_run_ok (c := c) (tl := tl) (lo := 48) (hi := 57) (tl - rz_s c tl e) (rz_s c tl e) (by omega)
      exact ⟨h3, h4, fun _ => rz_run_gt (by omega) c2⟩
    · rw [if_neg c2]
      exact ⟨by omega, by omega, fun _ => by omega⟩
theorem s_endOf {lo hi p : Nat} {post : Int32 → Prop} (htl : tl ≤ 200) (hb : ∀ j, j < tl → c j < 256 ∧ xby j = nI (c j)) (hlo : lo < 256) (hhi : hi < 256) (hp : p ≤ tl) (h : post (nI (rz_e c tl lo hi p))) : f_X2_endOfThose (nI tl) xby (nI p) (nI lo) (nI hi) post := by
  have key : ∀ z p, p + z = tl → post (nI (rz_run c tl lo hi z p)) → mx_l1 (f_X2_endOfThose_3 (nI tl) xby post (nI lo) (nI hi)) (z + 1) (nI p) := by
    intro z
    induction z with
    | zero =>
      intro p hz h
      exact ⟨fun _ => h, fun _ => ⟨fun _ => h, fun c => absurd (nI_le (by omega) (by omega)) c⟩⟩
    | succ z ih =>
      intro p hz h
      obtain ⟨b1, b2⟩ := hb p (by omega)
      rw [rz_run] at h
      refine ⟨fun c => absurd c (nI_pos (by omega)), fun _ => ⟨fun c => absurd c (nI_ge (by omega) (by omega)), fun _ => ⟨vp_in_nI (by omega) (by omega), ?_⟩⟩⟩
      rw [nI_clamp (by omega), b2, nI_ltI (by omega) (by omega), nI_ltI (by omega) (by omega), nI_1]
      refine ⟨fun c1 => ?_, fun c1 => ⟨vp_in_nI (by omega) (by omega), fun c2 => ?_, fun c2 => ?_⟩⟩
      · rw [if_neg (by omega)] at h; exact h
      · rw [if_neg (by omega)] at h; exact h
      · rw [if_pos (by omega)] at h
        exact ih (p + 1) (by omega) h
  exact ⟨_, key (tl - p) p (by omega) h⟩
theorem s_isBetween {lo hi p : Nat} {post : Int32 → Prop} (htl : tl ≤ 200) (hb : ∀ j, j < tl → c j < 256 ∧ xby j = nI (c j)) (hlo : lo < 256) (hhi : hi < 256) (hp : p ≤ tl) (h1 : rz_in c tl p lo hi = true → post 1) (h0 : ¬ rz_in c tl p lo hi = true → post 0) : f_X2_isBetween (nI tl) xby (nI p) (nI lo) (nI hi) post := by
  rw [rz_in_iff] at h1 h0
  unfold f_X2_isBetween
  rw [nI_leI (by omega) (by omega)]
  refine ⟨fun c => absurd c (nI_pos (by omega)), fun _ => ⟨fun c => h0 (by omega), fun cc => ⟨vp_in_nI (by omega) (by omega), ?_⟩⟩⟩
  obtain ⟨b1, b2⟩ := hb p (by omega)
  rw [nI_clamp (by omega), b2, nI_ltI (by omega) (by omega), nI_ltI (by omega) (by omega)]
  exact ⟨fun c1 => h0 (by omega), fun c1 => ⟨vp_in_nI (by omega) (by omega), fun c2 => h0 (by omega), fun c2 => h1 (by omega)⟩⟩
theorem s_step {st : Int32} {e : Nat} {post : Int32 → Int32 → Prop} (htl : tl ≤ 200) (hb : ∀ j, j < tl → c j < 256 ∧ xby j = nI (c j)) (he : e ≤ tl) (hp : post (nI (rz_s c tl e)) (nI (rz_t c tl e))) : f_X0_step (nI tl) xby st (nI e) post := by
  obtain ⟨h1, h2⟩ := rz_s_le (c := c) he
  refine s_endOf (lo := 32) (hi := 32) htl hb (by omega) (by omega) he (s_isBetween (p := rz_s c tl e) (lo := 97) (hi := 122) htl hb (by omega) (by omega) h2 (fun c1 => ⟨fun c => absurd c (by decide), fun _ => ?_⟩) (fun c1 => ⟨fun _ => s_isBetween (p := rz_s c tl e) (lo := 48) (hi := 57) htl hb (by omega) (by omega) h2 (fun c2 => ⟨fun c => absurd c (by decide), fun _ => ?_⟩) (fun c2 => ⟨fun _ => ?_, fun c => absurd rfl c⟩), fun c => absurd rfl c⟩))
  · refine s_endOf (p := rz_s c tl e) (lo := 97) (hi := 122) htl hb (by omega) (by omega) h2 ?_
    have eq1 : rz_t c tl e = rz_e c tl 97 122 (rz_s c tl e) := by rw [rz_t, if_pos c1]
    rw [eq1] at hp; exact hp
  · refine s_endOf (p := rz_s c tl e) (lo := 48) (hi := 57) htl hb (by omega) (by omega) h2 ?_
    have eq1 : rz_t c tl e = rz_e c tl 48 57 (rz_s c tl e) := by rw [rz_t, if_neg c1, if_pos c2]
    rw [eq1] at hp; exact hp
  · have eq1 : rz_t c tl e = min (rz_s c tl e + 1) tl := by rw [rz_t, if_neg c1, if_neg c2]
    rw [eq1] at hp
    show post (nI (rz_s c tl e)) (if nI tl < nI (rz_s c tl e) + 1 then nI tl else nI (rz_s c tl e) + 1)
    rw [nI_1]
    by_cases c3 : tl < rz_s c tl e + 1
    · rw [if_pos ((nI_ltI (by omega) (by omega)).mpr c3)]
      rw [show min (rz_s c tl e + 1) tl = tl by omega] at hp
      exact hp
    · rw [if_neg (fun z => c3 ((nI_ltI (by omega) (by omega)).mp z))]
      rw [show min (rz_s c tl e + 1) tl = rz_s c tl e + 1 by omega] at hp
      exact hp
end RZ
