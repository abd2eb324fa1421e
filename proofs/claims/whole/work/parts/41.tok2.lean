section RA
variable {c : Nat → Nat} {tl : Nat} {xby mt : Nat → Int32}
theorem mx_skn : ∀ k, k < 10 → mx_sk (nI k) = k := by decide +kernel
theorem s_len {k : Nat} {post : Int32 → Prop} (hk : k < 10) (hp : post (nI (rz_wd k).length)) : f_J0_length_8abf5 (mx_sw k) post := by
  unfold f_J0_length_8abf5
  rw [(rz_wd_len k hk).2.2.2]
  exact hp
theorem s_reads {k e : Nat} {post : Int32 → Prop} (htl : tl ≤ 200) (hb : ∀ j, j < tl → c j < 256 ∧ xby j = nI (c j)) (he : e ≤ tl) (hk : k < 10) (h1 : rz_W c tl e k → post 1) (h0 : ¬ rz_W c tl e k → post 0) : f_X2_reads (nI tl) xby (mx_sw k) (nI (rz_s c tl e)) (nI (rz_t c tl e)) post := by
  obtain ⟨s1, s2⟩ := rz_s_le (c := c) he
  obtain ⟨t1, t2, -⟩ := rz_t_le (c := c) he
  obtain ⟨w1, w2, w3, w4⟩ := rz_wd_len k hk
  unfold f_X2_reads
  rw [pk_sub t1, nI_ltI (by omega) (by omega)]
  refine ⟨fun c => absurd c (nI_pos (by omega)), fun _ => ⟨fun c => absurd c (by omega), fun _ => s_len hk ?_⟩⟩
  rw [nI_eq (by omega) (by omega)]
  refine ⟨fun cl => ?_, fun cl => h0 (fun z => cl z.1)⟩
  have key : ∀ z i, i + z = (rz_wd k).length → (∀ j, j < i → c (rz_s c tl e + j) = (rz_wd k).getD j 0) → mx_l1 (f_X2_reads_27 (nI tl) xby (mx_sw k) post (nI (rz_s c tl e))) (z + 1) (nI i) := by
    intro z
    induction z with
    | zero =>
      intro i hi hj
      show f_X2_reads_27 (nI tl) xby (mx_sw k) post (nI (rz_s c tl e)) (mx_l1 (f_X2_reads_27 (nI tl) xby (mx_sw k) post (nI (rz_s c tl e))) 0) (nI i)
      refine s_len hk ?_
      exact ⟨fun _ => h1 ⟨cl, fun j h => hj j (by omega)⟩, fun c => absurd (nI_le (by omega) (by omega)) c⟩
    | succ z ih =>
      intro i hi hj
      obtain ⟨b1, b2⟩ := hb (rz_s c tl e + i) (by omega)
      obtain ⟨a1, a2⟩ := rz_wd_ab k hk i (by omega)
      show f_X2_reads_27 (nI tl) xby (mx_sw k) post (nI (rz_s c tl e)) (mx_l1 (f_X2_reads_27 (nI tl) xby (mx_sw k) post (nI (rz_s c tl e))) (z + 1)) (nI i)
      refine s_len hk ⟨fun c => absurd c (nI_ge (by omega) (by omega)), fun _ => ?_⟩
      rw [nI_add, nI_clamp (by omega), b2, nI_1]
      refine ⟨vp_in_nI (by omega) (by omega), ⟨by omega, vp_in_nI (by omega) (by omega)⟩, ?_⟩
      rw [nI_clamp (by omega), rz_wd_ch k hk i (by omega)]
      show (nI _ = nI _ → _) ∧ (¬ nI _ = nI _ → _)
      rw [nI_eq (by omega) (by omega)]
      refine ⟨fun ce => ih (i + 1) (by omega) (fun j hj2 => ?_), fun ce => h0 (fun z => ce (z.2 i (by omega)))⟩
      rcases Nat.lt_or_ge j i with h | h
      · exact hj j h
      · rw [show j = i by omega]; exact ce
  exact ⟨_, key (rz_wd k).length 0 (by omega) (fun j h => absurd h (by omega))⟩
theorem s_wordHere {e : Nat} {post : Int32 → Prop} (htl : tl ≤ 200) (hb : ∀ j, j < tl → c j < 256 ∧ xby j = nI (c j)) (he : e ≤ tl) (h1 : ∀ k, k < 10 → rz_W c tl e k → post (nI k)) (h0 : (∀ k, k < 10 → ¬ rz_W c tl e k) → post (-1)) : f_X0_wordHere (nI (rz_s c tl e)) (nI (rz_t c tl e)) (nI tl) xby post := by
  have key : ∀ z k, k + z = 10 → (∀ j, j < k → ¬ rz_W c tl e j) → mx_l1 (f_X0_wordHere_2 (nI (rz_s c tl e)) (nI (rz_t c tl e)) (nI tl) xby post) (z + 1) (nI k) := by
    intro z
    induction z with
    | zero =>
      intro k hk hj
      exact ⟨fun _ => h0 (fun j h => hj j (by omega)), fun c => absurd (nI_le (a := 10) (by omega) (by omega)) c⟩
    | succ z ih =>
      intro k hk hj
      refine ⟨fun c => absurd c (nI_ge (b := 10) (by omega) (by omega)), fun _ => ?_⟩
      rw [mx_skn k (by omega), nI_1]
      refine s_reads htl hb he (by omega) (fun w => ⟨fun c => absurd c (by decide), fun _ => h1 k (by omega) w⟩) (fun w => ⟨fun _ => ih (k + 1) (by omega) (fun j h => ?_), fun c => absurd rfl c⟩)
      rcases Nat.lt_or_ge j k with h2 | h2
      · exact hj j h2
      · rw [show j = k by omega]; exact w
  exact ⟨_, key 10 0 (by omega) (fun j h => absurd h (by omega))⟩
theorem rz_vl_lt {s : Nat} : ∀ m, (∀ i, i < m → 48 ≤ c (s + i) ∧ c (s + i) ≤ 57) → rz_vl c s m < 10 ^ m
  | 0, _ => by simp [rz_vl]
  | m + 1, h => by
    have h1 := rz_vl_lt m (fun i hi => h i (by omega))
    have h2 := h m (by omega)
    rw [rz_vl, Nat.pow_succ]
    omega
theorem rz_dig {e : Nat} (he : e ≤ tl) (h : rz_in c tl (rz_s c tl e) 48 57 = true) : rz_t c tl e = rz_e c tl 48 57 (rz_s c tl e) ∧ ∀ i, i < rz_t c tl e - rz_s c tl e → 48 ≤ c (rz_s c tl e + i) ∧ c (rz_s c tl e + i) ≤ 57 := by
  have h2 := rz_in_iff.mp h
  have e1 : rz_t c tl e = rz_e c tl 48 57 (rz_s c tl e) := by
    rw [rz_t, if_neg (fun z => by have := rz_in_iff.mp z; omega), if_pos h]
  refine ⟨e1, fun i hi => ?_⟩
  obtain ⟨s1, s2⟩ := rz_s_le (c := c) he
  obtain ⟨r1, r2, r3⟩ := rz_run_ok (c := c) (tl := tl) (lo := 48) (hi := 57) (tl - rz_s c tl e) (rz_s c tl e) (by omega)
  rw [e1] at hi
  unfold rz_e at hi
  exact r3 _ (by omega) (by omega)
theorem rz_v_lt {e : Nat} (he : e ≤ tl) (h : rz_isn c tl e) : rz_v c tl e < 1000 := by
  have h1 := rz_vl_lt (c := c) (s := rz_s c tl e) (rz_t c tl e - rz_s c tl e) (rz_dig he h.1).2
  have h2 : 10 ^ (rz_t c tl e - rz_s c tl e) ≤ 10 ^ 3 := Nat.pow_le_pow_right (by omega) h.2
  show rz_vl c (rz_s c tl e) (rz_t c tl e - rz_s c tl e) < 1000
  omega
theorem rz_dstep {v b : Nat} (h1 : 48 ≤ b) : (10 * nI v) + nI b - 48 = nI (10 * v + (b - 48)) := by
  rw [ix_10, nI_add, show (48 : Int32) = nI 48 from rfl, pk_sub (by omega)]
  congr 1
  omega
theorem s_numberHere {e : Nat} {post : Int32 → Prop} (htl : tl ≤ 200) (hb : ∀ j, j < tl → c j < 256 ∧ xby j = nI (c j)) (he : e ≤ tl) (h1 : rz_isn c tl e → post (nI (rz_v c tl e))) (h0 : ¬ rz_isn c tl e → post (-1)) : f_X0_numberHere (nI (rz_s c tl e)) (nI tl) xby (nI (rz_t c tl e)) post := by
  obtain ⟨s1, s2⟩ := rz_s_le (c := c) he
  obtain ⟨t1, t2, -⟩ := rz_t_le (c := c) he
  refine s_isBetween (lo := 48) (hi := 57) htl hb (by omega) (by omega) s2 (fun ci => ⟨fun c => absurd c (by decide), fun _ => ?_⟩) (fun ci => ⟨fun _ => h0 (fun z => ci z.1), fun c => absurd rfl c⟩)
  rw [pk_sub t1, show nI (rz_t c tl e - rz_s c tl e) ≤ 3 ↔ rz_t c tl e - rz_s c tl e ≤ 3 from nI_leI (b := 3) (by omega) (by omega)]
  refine ⟨fun cl => ?_, fun cl => h0 (fun z => cl z.2)⟩
  have hd := (rz_dig he ci).2
  have key : ∀ z i, i + z = rz_t c tl e - rz_s c tl e → mx_l2 (f_X0_numberHere_40 (nI (rz_s c tl e)) (nI tl) xby (nI (rz_t c tl e)) post) (z + 1) (nI (rz_vl c (rz_s c tl e) i)) (nI (rz_s c tl e + i)) := by
    intro z
    induction z with
    | zero =>
      intro i hi
      refine ⟨fun _ => ?_, fun c => absurd (nI_le (by omega) (by omega)) c⟩
      have := h1 ⟨ci, cl⟩
      rw [rz_v, ← hi] at this
      exact this
    | succ z ih =>
      intro i hi
      obtain ⟨b1, b2⟩ := hb (rz_s c tl e + i) (by omega)
      have hdi := hd i (by omega)
      refine ⟨fun c => absurd c (nI_ge (by omega) (by omega)), fun _ => ⟨fun c => absurd c (nI_ge (by omega) (by omega)), fun _ => ⟨vp_in_nI (by omega) (by omega), ?_⟩⟩⟩
      rw [nI_clamp (by omega), b2, rz_dstep hdi.1, nI_1]
      exact ih (i + 1) (by omega)
  exact ⟨_, key (rz_t c tl e - rz_s c tl e) 0 (by omega)⟩
/-- a number that may stand there -/
def rz_N (c : Nat → Nat) (tl e lo hx v : Nat) : Prop := rz_isn c tl e ∧ rz_v c tl e = v ∧ lo ≤ v ∧ v < hx
def rz_hx (x : Int32) (hx : Nat) : Prop := ∀ v, v < 1000 → (nI v ≤ x ↔ v < hx)
theorem rz_hx_n {h : Nat} (hh : h < 2 ^ 30) : rz_hx (nI h) (h + 1) := fun v hv => by rw [nI_leI (by omega) (by omega)]; omega
theorem rz_hx_m {n : Nat} (hn : n < 2 ^ 30) : rz_hx (nI n - 1) n := fun v hv => by
  rw [Int32.le_iff_toInt_le, nI_m1 hn, nI_toInt (by omega)]
  omega
theorem s_numberStands {e q lo hx : Nat} {x3 : Int32} {nums : Nat → Int32} {post : Int32 → (Nat → Int32) → Int32 → Int32 → Prop} (htl : tl ≤ 200) (hb : ∀ j, j < tl → c j < 256 ∧ xby j = nI (c j)) (he : e ≤ tl) (hq : q < 3) (hlo : lo < 1000) (h3 : rz_hx x3 hx) (h1 : ∀ v, rz_N c tl e lo hx v → post 1 (upd nums q (nI v)) (nI (rz_s c tl (rz_t c tl e))) (nI (rz_t c tl (rz_t c tl e)))) (h0 : (∀ v, ¬ rz_N c tl e lo hx v) → post 0 nums (nI (rz_s c tl e)) (nI (rz_t c tl e))) : f_X0_numberStands (nI tl) xby nums (nI (rz_s c tl e)) (nI (rz_t c tl e)) (nI q) (nI lo) x3 post := by
  obtain ⟨t1, t2, -⟩ := rz_t_le (c := c) he
  refine s_numberHere htl hb he (fun hi => ?_) (fun hi => ⟨fun _ => h0 (fun v z => hi z.1), fun c => absurd rfl c⟩)
  have hv := rz_v_lt he hi
  rw [h3 _ hv, nI_ltI (by omega) (by omega), nI_clamp (by omega)]
  refine ⟨fun c => absurd c (nI_nm1 (by omega)), fun _ => ⟨fun c1 => h0 (fun v z => ?_), fun c1 => ⟨fun c2 => ⟨fun c => absurd c (nI_pos (by omega)), fun _ => ⟨fun _ => ⟨vp_in_nI (by omega) (by omega), s_step htl hb t2 (h1 _ ⟨hi, rfl, by omega, c2⟩)⟩, fun c => absurd ((nI_ltI (b := 3) (by omega) (by omega)).mpr hq) c⟩⟩, fun c2 => h0 (fun v z => ?_)⟩⟩⟩
  · have := z.2.1; have := z.2.2.1; omega
  · have := z.2.1; have := z.2.2.2; omega
end RA
