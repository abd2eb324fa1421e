section CM
variable {ns np nb so n d : Nat} {K : Nat → Nat → Nat} {Pa Pb Wd O : Nat → Nat} {xs xp xb xs2 xc : Int32} {xk xw xt xh xf xa xv : Nat → Int32} {ms mj mo mp : Int32} {mst mpr mwd : Nat → Int32} {xn xd : Int32} {xo mr : Nat → Int32}
/-! small numbers -/
theorem cm_lt {x : Int32} {k : Nat} (h0 : ¬ x < 0) (hk : k < 2 ^ 31) (h : x ≤ nI k) : ∃ j, j ≤ k ∧ x = nI j := by
  obtain ⟨j, h1, rfl⟩ := nI_of h0
  exact ⟨j, (nI_leI h1 hk).mp h, rfl⟩
theorem cm_4 {x : Int32} (h0 : ¬ x < 0) (h : x ≤ 4) : x = 0 ∨ x = 1 ∨ x = 2 ∨ x = 3 ∨ x = 4 := by
  obtain ⟨j, h1, rfl⟩ := cm_lt (k := 4) h0 (by omega) h
  rcases (show j = 0 ∨ j = 1 ∨ j = 2 ∨ j = 3 ∨ j = 4 by omega) with rfl | rfl | rfl | rfl | rfl
  · exact Or.inl rfl
  · exact Or.inr (Or.inl rfl)
  · exact Or.inr (Or.inr (Or.inl rfl))
  · exact Or.inr (Or.inr (Or.inr (Or.inl rfl)))
  · exact Or.inr (Or.inr (Or.inr (Or.inr rfl)))
theorem cm_n4 {x : Int32} (h : x < 0 ∨ 4 < x) : ¬ x = 0 ∧ ¬ x = 1 ∧ ¬ x = 2 ∧ ¬ x = 3 ∧ ¬ x = 4 := by
  refine ⟨?_, ?_, ?_, ?_, ?_⟩ <;> (rintro rfl; revert h; decide)
theorem j_storey {x y : Int32} {post : Int32 → Int32 → Prop} (hs : cz_S ns K np Pa Pb nb so Wd xs xp xb xs2 xc xk xw xt xh xf xa xv ms mj mo mp mst mpr mwd) (hp : ∀ r, post r r) : f_X4_storey xs xf xh xt xw xk x y (fun r => f_X5_storey ms mst x y (fun r2 => post r r2)) := by
  have hn8 := hs.1.1
  obtain ⟨e1, -⟩ := hs.2.2.2.2.1
  obtain ⟨g1, -⟩ := hs.2.2.2.2.2.2.2.1
  have hX := hs.2.2.2.2.2.1
  have hM := hs.2.2.2.2.2.2.2.2.1
  unfold f_X4_storey f_X5_storey
  rw [e1, g1]
  rcases cz_ix x hn8 with ⟨j, hj, rfl⟩ | hx
  · obtain ⟨a0, a1, a2, a3, a4, -⟩ := hX.2 j hj
    have b : ∀ f, f < 5 → mst (5 * j + f) = nI (K j f) := hM.1 j hj
    have vi : vp_in (nI j) 8 := vp_in_nI (by omega) (by omega)
    have m : ∀ f, f < 5 → vp_in (5 * nI j + nI f) 40 ∧ mst (5 * nI j + nI f).toNatClampNeg = nI (K j f) := by
      intro f hf
      rw [ix_5, nI_add, nI_clamp (by omega)]
      exact ⟨vp_in_nI (by omega) (by omega), b f hf⟩
    refine s_has_t hn8 hj ⟨fun _ => ?_, fun c => absurd c (by decide)⟩
    rw [nI_clamp (by omega), a0, a1, a2, a3, a4]
    by_cases h4 : y < 0 ∨ 4 < y
    · obtain ⟨n0, n1, n2, n3, n4⟩ := cm_n4 h4
      refine ⟨fun c => absurd c n0, fun _ => ⟨fun c => absurd c n1, fun _ => ⟨fun c => absurd c n2, fun _ => ⟨fun c => absurd c n3, fun _ => ⟨fun c => absurd c n4, fun _ => s_st_t hn8 hj ⟨fun _ => ?_, fun c => absurd c (by decide)⟩⟩⟩⟩⟩⟩
      refine ⟨fun _ => ⟨fun _ => hp _, fun c => absurd rfl c⟩, fun c => ⟨fun _ => ⟨fun _ => hp _, fun c => absurd rfl c⟩, fun c2 => ?_⟩⟩
      rcases h4 with h | h
      · exact absurd h c
      · exact absurd h c2
    · have h0 : ¬ y < 0 := fun z => h4 (Or.inl z)
      have h1 : y ≤ 4 := Int32.not_lt.mp (fun z => h4 (Or.inr z))
      have tail : ∀ f : Nat, f < 5 → y = nI f → f_X5_isStorey (nI ns) (nI j) (fun r1 => (¬ r1 = 0 → f_X5_in1 y 0 4 (fun r2 => (r2 = 0 → post (nI (K j f)) (-3)) ∧ (¬ r2 = 0 → vp_in (5 * nI j + y) 40 ∧ post (nI (K j f)) (mst (5 * nI j + y).toNatClampNeg)))) ∧ (r1 = 0 → post (nI (K j f)) (-2))) := by
        intro f hf hy
        refine s_st_t hn8 hj ⟨fun _ => ⟨fun c => absurd c h0, fun _ => ⟨fun c => absurd h1 (Int32.not_le.mpr c), fun _ => ⟨fun c => absurd c (by decide), fun _ => ?_⟩⟩⟩, fun c => absurd c (by decide)⟩
        rw [hy, (m f hf).2]
        exact ⟨(m f hf).1, hp _⟩
      rcases cm_4 h0 h1 with h | h | h | h | h
      · exact ⟨fun _ => ⟨vi, tail 0 (by omega) h⟩, fun c => absurd h c⟩
      · refine ⟨fun c => absurd (c.symm.trans h) (by decide), fun _ => ⟨fun _ => ⟨vi, tail 1 (by omega) h⟩, fun c => absurd h c⟩⟩
      · refine ⟨fun c => absurd (c.symm.trans h) (by decide), fun _ => ⟨fun c => absurd (c.symm.trans h) (by decide), fun _ => ⟨fun _ => ⟨vi, tail 2 (by omega) h⟩, fun c => absurd h c⟩⟩⟩
      · refine ⟨fun c => absurd (c.symm.trans h) (by decide), fun _ => ⟨fun c => absurd (c.symm.trans h) (by decide), fun _ => ⟨fun c => absurd (c.symm.trans h) (by decide), fun _ => ⟨fun _ => ⟨vi, tail 3 (by omega) h⟩, fun c => absurd h c⟩⟩⟩⟩
      · refine ⟨fun c => absurd (c.symm.trans h) (by decide), fun _ => ⟨fun c => absurd (c.symm.trans h) (by decide), fun _ => ⟨fun c => absurd (c.symm.trans h) (by decide), fun _ => ⟨fun c => absurd (c.symm.trans h) (by decide), fun _ => ⟨fun _ => ⟨vi, tail 4 (by omega) h⟩, fun c => absurd h c⟩⟩⟩⟩⟩
  · refine s_has_f hn8 hx ⟨fun c => absurd rfl c, fun _ => ?_⟩
    exact s_st_f hn8 hx ⟨fun c => absurd rfl c, fun _ => hp _⟩
theorem pz_ld_one : ∀ (ns : Nat) (K : Nat → Nat → Nat) (j : Nat), pz_ld ns K (2 ^ j) = if j < ns then K j 1 + K j 4 else 0
  | 0, K, j => by simp [pz_ld, pz_load, pz_sm]
  | ns + 1, K, j => by
    have ih := pz_ld_one ns K j
    have e : pz_ld (ns + 1) K (2 ^ j) = pz_ld ns K (2 ^ j) + pz_on (fun s => K s 1 + K s 4) (2 ^ j) ns := rfl
    rw [e, ih]
    unfold pz_on
    rw [Nat.testBit_two_pow]
    by_cases h : j = ns
    · subst h; simp
    · by_cases h2 : j < ns
      · simp [h, h2, show j < ns + 1 by omega]
      · simp [h, h2, show ¬ j < ns + 1 by omega]
/-- is a storey of kind k such a one -/
def cm_is (k q : Nat) : Bool := decide (q = 0) || (if q = 1 then decide (k < 3) else if q = 2 then decide (k = 1) else if q = 3 then decide (k = 2) else decide (k = 3))
theorem s_isSuch {k q : Nat} {post : Int32 → Prop} (hk : k ≤ 3) (hq : q ≤ 4) (hp : post (nI (if cm_is k q then 1 else 0))) : f_X4_isSuch (nI k) (nI q) post := by
  rcases (show k = 0 ∨ k = 1 ∨ k = 2 ∨ k = 3 by omega) with rfl | rfl | rfl | rfl <;> rcases (show q = 0 ∨ q = 1 ∨ q = 2 ∨ q = 3 ∨ q = 4 by omega) with rfl | rfl | rfl | rfl | rfl <;>
    (refine ⟨fun c => ?_, fun c => ⟨fun c2 => ⟨fun c3 => ?_, fun c3 => ⟨fun c4 => ?_, fun c4 => ?_⟩⟩, fun c2 => ?_⟩⟩) <;> first | exact hp | (exfalso; revert c; decide) | (exfalso; revert c2; decide) | (exfalso; revert c3; decide) | (exfalso; revert c4; decide)
theorem j_as {x y : Int32} {post : Int32 → Int32 → Prop} (hs : cz_S ns K np Pa Pb nb so Wd xs xp xb xs2 xc xk xw xt xh xf xa xv ms mj mo mp mst mpr mwd) (hp : ∀ r, post r r) : f_X4_as xs xk xw xf x y (fun r => f_X5_as ms mst x y (fun r2 => post r r2)) := by
  have hn8 := hs.1.1
  have ho := hs.1
  obtain ⟨e1, -⟩ := hs.2.2.2.2.1
  obtain ⟨g1, -⟩ := hs.2.2.2.2.2.2.2.1
  have hX := hs.2.2.2.2.2.1
  have hM := hs.2.2.2.2.2.2.2.2.1
  unfold f_X4_as f_X5_as
  rw [e1, g1]
  rcases cz_ix x hn8 with ⟨j, hj, rfl⟩ | hx
  · have a0 := (hX.2 j hj).1
    have b0 : mst (5 * j) = nI (K j 0) := hM.1 j hj 0 (by omega)
    have hk := (ho.2.2.1 j hj).1
    have hsm := (ho.2.2.1 j hj)
    refine s_has_t hn8 hj ⟨fun _ => ⟨fun c => ?_, fun c => ⟨fun c2 => ⟨vp_in_nI (by omega) (by omega), ?_⟩, fun c2 => ?_⟩⟩, fun c => absurd c (by decide)⟩
    · exact s_st_t hn8 hj ⟨fun _ => ⟨fun _ => ⟨fun c => absurd rfl c, fun _ => hp _⟩, fun c3 => absurd c c3⟩, fun c => absurd c (by decide)⟩
    · obtain ⟨q, hq, rfl⟩ := cm_lt (k := 4) c (by omega) c2
      rw [nI_clamp (by omega), a0]
      have ld : nI (K j 1 + K j 4) = nI (pz_ld ns K (2 ^ j)) := by rw [pz_ld_one, if_pos hj]
      have tl : ∀ r1 : Int32, (cm_is (K j 0) q = true → r1 = nI (K j 1 + K j 4)) → (cm_is (K j 0) q = false → r1 = -4) → f_X5_isStorey (nI ns) (nI j) (fun r2 => (¬ r2 = 0 → f_X5_in1 (nI q) 0 4 (fun r2 => (¬ r2 = 0 → vp_in (5 * nI j) 40 ∧ ((nI q = 0 → f_X5_as_80 (nI ns) mst (fun r2 => post r1 r2) (nI j)) ∧ (¬ nI q = 0 → ((¬ nI q = 1 → ((¬ nI q = 2 → ((¬ nI q = 3 → ((¬ mst (5 * nI j).toNatClampNeg = 3 → f_X5_as_84 (nI ns) mst (fun r2 => post r1 r2) (nI j)) ∧ (mst (5 * nI j).toNatClampNeg = 3 → f_X5_as_80 (nI ns) mst (fun r2 => post r1 r2) (nI j)))) ∧ (nI q = 3 → ((¬ mst (5 * nI j).toNatClampNeg = 2 → f_X5_as_84 (nI ns) mst (fun r2 => post r1 r2) (nI j)) ∧ (mst (5 * nI j).toNatClampNeg = 2 → f_X5_as_80 (nI ns) mst (fun r2 => post r1 r2) (nI j)))))) ∧ (nI q = 2 → ((¬ mst (5 * nI j).toNatClampNeg = 1 → f_X5_as_84 (nI ns) mst (fun r2 => post r1 r2) (nI j)) ∧ (mst (5 * nI j).toNatClampNeg = 1 → f_X5_as_80 (nI ns) mst (fun r2 => post r1 r2) (nI j)))))) ∧ (nI q = 1 → ((3 ≤ mst (5 * nI j).toNatClampNeg → f_X5_as_84 (nI ns) mst (fun r2 => post r1 r2) (nI j)) ∧ (¬ 3 ≤ mst (5 * nI j).toNatClampNeg → f_X5_as_80 (nI ns) mst (fun r2 => post r1 r2) (nI j)))))))) ∧ (r2 = 0 → post r1 (-3)))) ∧ (r2 = 0 → post r1 (-2))) := by
        intro r1 h1 h0
        have yes : cm_is (K j 0) q = true → f_X5_as_80 (nI ns) mst (fun r2 => post r1 r2) (nI j) := by
          intro h
          refine ⟨fun c => absurd c (by decide), fun _ => s_X5_loadOf ho hM hj ?_⟩
          rw [h1 h]; exact hp _
        have no : cm_is (K j 0) q = false → f_X5_as_84 (nI ns) mst (fun r2 => post r1 r2) (nI j) := by
          intro h
          refine ⟨fun _ => ?_, fun c => absurd rfl c⟩
          rw [h0 h]; exact hp _
        refine s_st_t hn8 hj ⟨fun _ => ⟨fun c3 => absurd c3 c, fun _ => ⟨fun c3 => absurd c2 (Int32.not_le.mpr c3), fun _ => ⟨fun _ => ⟨by rw [ix_5]; exact vp_in_nI (by omega) (by omega), ?_⟩, fun c => absurd c (by decide)⟩⟩⟩, fun c => absurd c (by decide)⟩
        rw [ix_5, nI_clamp (by omega), b0]
        clear h1 h0 ld hsm a0 b0 hp
        generalize K j 0 = k at *
        rcases (show k = 0 ∨ k = 1 ∨ k = 2 ∨ k = 3 by omega) with rfl | rfl | rfl | rfl <;> rcases (show q = 0 ∨ q = 1 ∨ q = 2 ∨ q = 3 ∨ q = 4 by omega) with rfl | rfl | rfl | rfl | rfl <;>
          (refine ⟨fun d1 => ?_, fun d1 => ⟨fun d2 => ⟨fun d3 => ⟨fun d4 => ⟨fun d5 => ?_, fun d5 => ?_⟩, fun d4 => ⟨fun d5 => ?_, fun d5 => ?_⟩⟩, fun d3 => ⟨fun d5 => ?_, fun d5 => ?_⟩⟩, fun d2 => ⟨fun d5 => ?_, fun d5 => ?_⟩⟩⟩) <;> first | exact yes rfl | exact no rfl | (exfalso; revert d1; decide) | (exfalso; revert d2; decide) | (exfalso; revert d3; decide) | (exfalso; revert d4; decide) | (exfalso; revert d5; decide)
      refine s_isSuch hk hq ⟨fun c3 => ?_, fun c3 => ?_⟩
      · have hi : cm_is (K j 0) q = false := by cases h : cm_is (K j 0) q with
          | false => rfl
          | true => rw [h] at c3; exact absurd c3 (by decide)
        exact tl _ (fun h => by rw [hi] at h; cases h) (fun _ => rfl)
      · have hi : cm_is (K j 0) q = true := by cases h : cm_is (K j 0) q with
          | true => rfl
          | false => rw [h] at c3; exact absurd rfl c3
        rw [pz_shl j (by omega)]
        refine s_X1_load ho hX (by have := pz_or_lt 0 (by omega) j (by omega); simpa using this) ?_
        exact tl _ (fun _ => ld.symm) (fun h => by rw [hi] at h; cases h)
    · refine s_st_t hn8 hj ⟨fun _ => ⟨fun c3 => absurd c3 c, fun _ => ⟨fun _ => ⟨fun c => absurd rfl c, fun _ => hp _⟩, fun c3 => absurd (Int32.not_le.mp c2) c3⟩⟩, fun c => absurd c (by decide)⟩
  · refine s_has_f hn8 hx ⟨fun c => absurd rfl c, fun _ => ?_⟩
    exact s_st_f hn8 hx ⟨fun c => absurd rfl c, fun _ => hp _⟩
end CM
