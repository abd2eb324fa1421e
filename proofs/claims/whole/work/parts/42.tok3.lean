section RB
variable {c : Nat → Nat} {tl : Nat} {xby mt : Nat → Int32}
theorem iL_neg {n : Nat} (h : n < 2 ^ 63) (m : Int64) (hm : m.toInt < 0) : iL n ≠ m := fun z => by
  rw [← z, iL_toInt h] at hm; omega
theorem in1_n {v lo hi : Nat} {P Q : Prop} (hv : v < 2 ^ 31) (hlo : lo < 2 ^ 31) (hhi : hi < 2 ^ 31) (h0 : ¬ (lo ≤ v ∧ v ≤ hi) → P) (h1 : (lo ≤ v ∧ v ≤ hi) → Q) : f_X5_in1 (nI v) (nI lo) (nI hi) (fun r => (r = 0 → P) ∧ (¬ r = 0 → Q)) := by
  refine in1_and (fun z => h0 (fun y => z ?_)) (fun z => h1 ?_)
  · rw [nI_ltI hv hlo, nI_ltI hhi hv]; omega
  · rw [nI_ltI hv hlo, nI_ltI hhi hv] at z; omega
theorem rz_cd_lt {s : Nat} : ∀ m, (∀ i, i < m → 97 ≤ c (s + i) ∧ c (s + i) ≤ 122) → rz_cd c s m < 27 ^ m
  | 0, _ => by simp [rz_cd]
  | m + 1, h => by
    have h1 := rz_cd_lt m (fun i hi => h i (by omega))
    have h2 := h m (by omega)
    rw [rz_cd, Nat.pow_succ]
    omega
theorem rz_cd_inj {a b : Nat → Nat} {s s' : Nat} : ∀ m m', (∀ i, i < m → 97 ≤ a (s + i) ∧ a (s + i) ≤ 122) → (∀ i, i < m' → 97 ≤ b (s' + i) ∧ b (s' + i) ≤ 122) → rz_cd a s m = rz_cd b s' m' → m = m' ∧ ∀ i, i < m → a (s + i) = b (s' + i)
  | 0, 0, _, _, _ => ⟨rfl, fun i h => absurd h (by omega)⟩
  | 0, m' + 1, _, h2, h => by
    have := h2 m' (by omega)
    rw [rz_cd, rz_cd] at h
    omega
  | m + 1, 0, h1, _, h => by
    have := h1 m (by omega)
    rw [rz_cd, rz_cd] at h
    omega
  | m + 1, m' + 1, h1, h2, h => by
    have g1 := h1 m (by omega)
    have g2 := h2 m' (by omega)
    rw [rz_cd, rz_cd] at h
    obtain ⟨q1, q2⟩ := rz_cd_inj m m' (fun i hi => h1 i (by omega)) (fun i hi => h2 i (by omega)) (by omega)
    subst q1
    refine ⟨rfl, fun i hi => ?_⟩
    rcases Nat.lt_or_ge i m with hh | hh
    · exact q2 i hh
    · rw [show i = m by omega]; omega
theorem rz_cd_W {e k : Nat} (hk : k < 10) (hl : ∀ i, i < rz_t c tl e - rz_s c tl e → 97 ≤ c (rz_s c tl e + i) ∧ c (rz_s c tl e + i) ≤ 122) : rz_W c tl e k ↔ rz_cd c (rz_s c tl e) (rz_t c tl e - rz_s c tl e) = rz_code k := by
  have hab := rz_wd_ab k hk
  rw [← rz_wd_cd k hk]
  constructor
  · rintro ⟨h1, h2⟩
    rw [h1]
    have : ∀ m, m ≤ (rz_wd k).length → rz_cd c (rz_s c tl e) m = rz_cd (fun i => (rz_wd k).getD i 0) 0 m := by
      intro m
      induction m with
      | zero => intro _; rfl
      | succ m ih =>
        intro hm
        rw [rz_cd, rz_cd, ih (by omega), h2 m (by omega), Nat.zero_add]
    exact this _ (Nat.le_refl _)
  · intro h
    obtain ⟨q1, q2⟩ := rz_cd_inj (b := fun i => (rz_wd k).getD i 0) (s' := 0) _ _ hl (fun i hi => by rw [Nat.zero_add]; exact hab i hi) h
    refine ⟨q1, fun i hi => ?_⟩
    have := q2 i (by omega)
    rw [Nat.zero_add] at this
    exact this
/-- what the model knows of a token -/
def rz_tk (c : Nat → Nat) (tl e : Nat) (nm : Int32) (tk : Int64) : Prop := (∀ k, k < 10 → (rz_W c tl e k ↔ tk = iL (rz_code k))) ∧ (rz_isn c tl e → tk = -1 ∧ nm = nI (rz_v c tl e)) ∧ (¬ rz_isn c tl e → tk ≠ -1) ∧ (tk = -2 ↔ rz_s c tl e = tl) ∧ (tk = -3 ↔ rz_semi c tl e)
theorem rz_noW {e k : Nat} (hk : k < 10) (h : rz_t c tl e - rz_s c tl e < 4) : ¬ rz_W c tl e k := fun z => by
  have := z.1
  have := (rz_wd_len k hk).1
  omega
theorem rz_cn {k : Nat} (hk : k < 10) {m : Int64} (hm : m.toInt < 0) : m ≠ iL (rz_code k) := fun z => iL_neg (by have := rz_code_lt k hk; omega) m hm z.symm
theorem s_nextToken {e : Nat} {ta dg nm : Int32} {tk : Int64} {post : Int32 → Int32 → Int32 → Int64 → Int32 → Prop} (htl : tl ≤ 200) (hb : ∀ j, j < tl → c j < 256 ∧ mt j = nI (c j)) (he : e ≤ tl) (hp : ∀ dg nm tk, rz_tk c tl e nm tk → post (nI (rz_s c tl e)) dg nm tk (nI (rz_t c tl e))) : f_X5_nextToken (nI tl) mt ta dg nm tk (nI e) post := by
  obtain ⟨s1, s2⟩ := rz_s_le (c := c) he
  obtain ⟨t1, t2, t3⟩ := rz_t_le (c := c) he
  have main : f_X5_nextToken_38 (nI tl) mt post ta dg nm tk (nI (rz_s c tl e)) := by
    unfold f_X5_nextToken_38
    rw [nI_eq (by omega) (by omega)]
    refine ⟨fun cs => ?_, fun cs => ?_⟩
    · obtain ⟨b1, b2⟩ := hb (rz_s c tl e) (by omega)
      rw [nI_clamp (by omega), b2]
      have v200 : vp_in (nI (rz_s c tl e)) 200 := vp_in_nI (by omega) (by omega)
      have nsemi : ∀ {P : Prop}, ¬ c (rz_s c tl e) = 59 → rz_semi c tl e → P := fun h z => absurd z.2 h
      refine ⟨v200, in1_n (lo := 97) (hi := 122) (by omega) (by omega) (by omega) (fun n1 => ⟨v200, in1_n (lo := 48) (hi := 57) (by omega) (by omega) (by omega) (fun n2 => ⟨v200, ?_⟩) (fun y2 => ?_)⟩) (fun y1 => ?_)⟩
      · have et : rz_t c tl e = rz_s c tl e + 1 := by
          rw [rz_t, if_neg (fun z => n1 (rz_in_iff.mp z).2), if_neg (fun z => n2 (rz_in_iff.mp z).2)]; omega
        have eni : ¬ rz_isn c tl e := fun z => n2 (rz_in_iff.mp z.1).2
        unfold f_X5_nextToken_381
        rw [nI_1, ← et, show nI (c (rz_s c tl e)) = 59 ↔ c (rz_s c tl e) = 59 from nI_eqn 59 (by omega) (by omega)]
        refine ⟨fun c59 => hp _ _ _ ⟨fun k hk => ⟨fun z => absurd z (rz_noW hk (by omega)), fun z => absurd z (rz_cn hk (by decide))⟩, fun z => absurd z eni, fun _ => by decide, ⟨fun z => absurd z (by decide), fun z => absurd z cs⟩, ⟨fun z => absurd z (by decide), fun z => absurd z.2 c59⟩⟩, fun c59 => hp _ _ _ ⟨fun k hk => ⟨fun z => absurd z (rz_noW hk (by omega)), fun z => absurd z (rz_cn hk (by decide))⟩, fun z => absurd z eni, fun _ => by decide, ⟨fun z => absurd z (by decide), fun z => absurd z cs⟩, ⟨fun _ => ⟨by omega, c59⟩, fun _ => rfl⟩⟩⟩
      · have hin : rz_in c tl (rz_s c tl e) 48 57 = true := rz_in_iff.mpr ⟨by omega, y2⟩
        obtain ⟨et, hd⟩ := rz_dig he hin
        have hW : ∀ k, k < 10 → ¬ rz_W c tl e k := fun k hk z => by
          have h1 := (rz_wd_len k hk).1
          have h2 := z.2 0 (by omega)
          have h3 := rz_wd_ab k hk 0 (by omega)
          rw [Nat.add_zero] at h2
          omega
        have key : ∀ z i, rz_s c tl e + i + z = tl → rz_run c tl 48 57 z (rz_s c tl e + i) = rz_t c tl e → mx_l3 (f_X5_nextToken_241 (nI tl) mt post (nI (rz_s c tl e)) tk) (z + 1) (nI i) (nI (rz_vl c (rz_s c tl e) (min i 3))) (nI (rz_s c tl e + i)) := by
          have fin : ∀ i, rz_s c tl e + i = rz_t c tl e → f_X5_nextToken_333 (nI tl) mt post (nI (rz_s c tl e)) (nI i) (nI (rz_vl c (rz_s c tl e) (min i 3))) tk (nI (rz_s c tl e + i)) := by
            intro i hi
            unfold f_X5_nextToken_333 f_X5_nextToken_351
            rw [hi, show nI i ≤ 3 ↔ i ≤ 3 from nI_leI (b := 3) (by omega) (by omega)]
            refine ⟨fun c3 => hp _ _ _ ⟨fun k hk => ⟨fun z => absurd z (hW k hk), fun z => absurd z (rz_cn hk (by decide))⟩, fun z => ⟨rfl, ?_⟩, fun z => absurd ⟨hin, by omega⟩ z, ⟨fun z => absurd z (by decide), fun z => absurd z cs⟩, ⟨fun z => absurd z (by decide), nsemi (by omega)⟩⟩, fun c3 => hp _ _ _ ⟨fun k hk => ⟨fun z => absurd z (hW k hk), fun z => absurd z (rz_cn hk (by decide))⟩, fun z => absurd z.2 (by omega), fun _ => by decide, ⟨fun z => absurd z (by decide), fun z => absurd z cs⟩, ⟨fun z => absurd z (by decide), nsemi (by omega)⟩⟩⟩
            rw [rz_v, show min i 3 = rz_t c tl e - rz_s c tl e by omega]
          intro z
          induction z with
          | zero =>
            intro i hz hr
            rw [rz_run] at hr
            exact ⟨fun _ => fin i hr, fun c => absurd (nI_le (by omega) (by omega)) c⟩
          | succ z ih =>
            intro i hz hr
            obtain ⟨b3, b4⟩ := hb (rz_s c tl e + i) (by omega)
            rw [rz_run] at hr
            refine ⟨fun c => absurd c (nI_ge (by omega) (by omega)), fun _ => ⟨vp_in_nI (by omega) (by omega), ?_⟩⟩
            rw [nI_clamp (by omega), b4]
            refine in1_n (lo := 48) (hi := 57) (by omega) (by omega) (by omega) (fun n3 => ?_) (fun y3 => ?_)
            · rw [if_neg n3] at hr
              exact fin i hr
            · rw [if_pos y3] at hr
              have nx := ih (i + 1) (by omega) hr
              unfold f_X5_nextToken_307
              rw [show (3 : Int32) ≤ nI i ↔ 3 ≤ i from nI_leI (a := 3) (by omega) (by omega), nI_1, nI_1]
              refine ⟨fun c3 => ?_, fun c3 => ⟨vp_in_nI (by omega) (by omega), ?_⟩⟩
              · rw [show min (i + 1) 3 = min i 3 by omega] at nx
                exact nx
              · rw [rz_dstep y3.1]
                rw [show min (i + 1) 3 = i + 1 by omega, rz_vl] at nx
                rw [show min i 3 = i by omega]
                exact nx
        refine ⟨_, key (tl - rz_s c tl e) 0 (by omega) ?_⟩
        rw [Nat.add_zero, et]; rfl
      · have hin : rz_in c tl (rz_s c tl e) 97 122 = true := rz_in_iff.mpr ⟨by omega, y1⟩
        have et : rz_t c tl e = rz_e c tl 97 122 (rz_s c tl e) := by rw [rz_t, if_pos hin]
        have hl : ∀ i, i < rz_t c tl e - rz_s c tl e → 97 ≤ c (rz_s c tl e + i) ∧ c (rz_s c tl e + i) ≤ 122 := by
          intro i hi
          obtain ⟨r1, r2, r3⟩ := rz_run_ok (c := c) (tl := tl) (lo := 97) (hi := 122) (tl - rz_s c tl e) (rz_s c tl e) (by omega)
          rw [et] at hi
          unfold rz_e at hi
          exact r3 _ (by omega) (by omega)
        have eni : ¬ rz_isn c tl e := fun z => by have := (rz_in_iff.mp z.1).2; omega
        have key : ∀ z i tok, rz_s c tl e + i + z = tl → rz_run c tl 97 122 z (rz_s c tl e + i) = rz_t c tl e → (i ≤ 9 → tok = iL (rz_cd c (rz_s c tl e) i)) → mx_l2 (f_X5_nextToken_101 (nI tl) mt post (nI (rz_s c tl e)) 0 0) (z + 1) tok (nI (rz_s c tl e + i)) := by
          have fin : ∀ i tok, rz_s c tl e + i = rz_t c tl e → (i ≤ 9 → tok = iL (rz_cd c (rz_s c tl e) i)) → f_X5_nextToken_191 (nI tl) mt post (nI (rz_s c tl e)) 0 0 tok (nI (rz_s c tl e + i)) := by
            intro i tok hi htok
            unfold f_X5_nextToken_191 f_X5_nextToken_216
            rw [pk_sub (by omega), show rz_s c tl e + i - rz_s c tl e = i by omega, hi, show nI i ≤ 9 ↔ i ≤ 9 from nI_leI (b := 9) (by omega) (by omega)]
            refine ⟨fun c9 => ?_, fun c9 => hp _ _ _ ⟨fun k hk => ⟨fun z => absurd z.1 (by have := (rz_wd_len k hk).2.1; omega), fun z => absurd z (rz_cn hk (by decide))⟩, fun z => absurd z eni, fun _ => by decide, ⟨fun z => absurd z (by decide), fun z => absurd z cs⟩, ⟨fun z => absurd z (by decide), nsemi (by omega)⟩⟩⟩
            have hi2 : i = rz_t c tl e - rz_s c tl e := by omega
            have hcd := rz_cd_lt (c := c) (s := rz_s c tl e) i (fun q hq => hl q (by omega))
            have hcd2 : 27 ^ i ≤ 27 ^ 9 := Nat.pow_le_pow_right (by omega) c9
            rw [htok c9]
            refine hp _ _ _ ⟨fun k hk => ?_, fun z => absurd z eni, fun _ => iL_neg (by omega) _ (by decide), ⟨fun z => absurd z (iL_neg (by omega) _ (by decide)), fun z => absurd z cs⟩, ⟨fun z => absurd z (iL_neg (by omega) _ (by decide)), nsemi (by omega)⟩⟩
            rw [rz_cd_W hk hl, iL_inj (by omega) (by have := rz_code_lt k hk; omega), hi2]
          intro z
          induction z with
          | zero =>
            intro i tok hz hr htok
            rw [rz_run] at hr
            exact ⟨fun _ => fin i tok hr htok, fun c => absurd (nI_le (by omega) (by omega)) c⟩
          | succ z ih =>
            intro i tok hz hr htok
            obtain ⟨b3, b4⟩ := hb (rz_s c tl e + i) (by omega)
            rw [rz_run] at hr
            refine ⟨fun c => absurd c (nI_ge (by omega) (by omega)), fun _ => ⟨vp_in_nI (by omega) (by omega), ?_⟩⟩
            rw [nI_clamp (by omega), b4]
            refine in1_n (lo := 97) (hi := 122) (by omega) (by omega) (by omega) (fun n3 => ?_) (fun y3 => ?_)
            · rw [if_neg n3] at hr
              exact fin i tok hr htok
            · rw [if_pos y3] at hr
              unfold f_X5_nextToken_175
              rw [pk_sub (by omega), show rz_s c tl e + i - rz_s c tl e = i by omega, show (9 : Int32) ≤ nI i ↔ 9 ≤ i from nI_leI (a := 9) (by omega) (by omega), nI_1]
              refine ⟨fun c9 => ih (i + 1) _ (by omega) hr (fun z => absurd z (by omega)), fun c9 => ⟨vp_in_nI (by omega) (by omega), ih (i + 1) _ (by omega) hr (fun _ => ?_)⟩⟩
              rw [htok (by omega), iL_of (by omega), show (27 : Int64) = iL 27 from rfl, iL_mul, iL_add, show (96 : Int64) = iL 96 from rfl, iL_sub (by omega), rz_cd]
              congr 1
              omega
        refine ⟨_, key (tl - rz_s c tl e) 0 0 (by omega) ?_ (fun _ => rfl)⟩
        rw [Nat.add_zero, et]; rfl
    · have et : rz_t c tl e = rz_s c tl e := by omega
      have eni : ¬ rz_isn c tl e := fun z => by have := (rz_in_iff.mp z.1).1; omega
      have := hp 0 0 (-2) ⟨fun k hk => ⟨fun z => absurd z (rz_noW hk (by omega)), fun z => absurd z (rz_cn hk (by decide))⟩, fun z => absurd z eni, fun _ => by decide, ⟨fun _ => cs, fun _ => rfl⟩, ⟨fun z => absurd z (by decide), fun z => absurd z.1 (by omega)⟩⟩
      rw [et] at this
      exact this
  have key0 : ∀ z p, p + z = tl → rz_run c tl 32 32 z p = rz_s c tl e → mx_l1 (f_X5_nextToken_0 (nI tl) mt post ta dg nm tk) (z + 1) (nI p) := by
    intro z
    induction z with
    | zero =>
      intro p hz hr
      rw [rz_run] at hr
      refine ⟨fun _ => by rw [hr]; exact main, fun c => absurd (nI_le (by omega) (by omega)) c⟩
    | succ z ih =>
      intro p hz hr
      obtain ⟨b3, b4⟩ := hb p (by omega)
      rw [rz_run] at hr
      refine ⟨fun c => absurd c (nI_ge (by omega) (by omega)), fun _ => ⟨vp_in_nI (by omega) (by omega), ?_⟩⟩
      rw [nI_clamp (by omega), b4, show nI (c p) = 32 ↔ c p = 32 from nI_eqn 32 (by omega) (by omega), nI_1]
      refine ⟨fun c32 => ?_, fun c32 => ?_⟩
      · rw [if_neg (by omega)] at hr
        rw [hr]; exact main
      · rw [if_pos (by omega)] at hr
        exact ih (p + 1) (by omega) hr
  exact ⟨_, key0 (tl - e) e (by omega) rfl⟩
end RB
