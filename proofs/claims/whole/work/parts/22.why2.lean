section PZ2
variable {ns np : Nat} {K : Nat → Nat → Nat} {Pa Pb : Nat → Nat} {cellars : Int32} {kind weight strength height folk above storey pair : Nat → Int32}
theorem pz_b01 (b : Bool) : nI (if b then 1 else 0) = 0 ∨ nI (if b then 1 else 0) = 1 := by cases b <;> simp [nI] <;> decide
/-- the model's second loop: pairs -/
theorem s_X5_hp95 {s set : Nat} {post : Int32 → Prop} (ho : pz_ok ns K np Pa Pb) (hm : pz_M ns K np Pa Pb storey pair) (hset : set < 256) (hs : s < ns) (b : Bool)
    (hp : post (nI (if b && pz_al (fun k => decide (Pb k ≠ s) || set.testBit (Pa k)) np then 1 else 0))) : f_X5_hasPlace_92 storey (nI ns) (nI np) pair post (nI s) (nI set) (nI (if b then 1 else 0)) := by
  have hs8 := ho.1
  have hp8 := ho.2.1
  have key : ∀ k i, i + k = np → mx_l2 (f_X5_hasPlace_95 storey (nI ns) (nI np) pair post (nI s) (nI set)) (k + 1) (nI (if b && pz_al (fun k => decide (Pb k ≠ s) || set.testBit (Pa k)) i then 1 else 0)) (nI i) := by
    intro k
    induction k with
    | zero =>
      intro i hi
      refine ⟨fun _ => ⟨pz_b01 _, ?_⟩, fun c => absurd (nI_le (by omega) (by omega)) c⟩
      rw [show i = np by omega]
      exact hp
    | succ k ih =>
      intro i hi
      have h9 := ih (i + 1) (by omega)
      have hP := ho.2.2.2 i (by omega)
      refine ⟨fun c => absurd c (nI_ge (by omega) (by omega)), fun _ => ?_⟩
      cases hb : (b && pz_al (fun k => decide (Pb k ≠ s) || set.testBit (Pa k)) i) with
      | false =>
        refine ⟨fun _ => ?_, fun c => absurd rfl c⟩
        have e : (b && pz_al (fun k => decide (Pb k ≠ s) || set.testBit (Pa k)) (i + 1)) = false := by
          rw [pz_al, ← Bool.and_assoc, hb, Bool.false_and]
        rw [e] at h9
        rw [nI_1]
        exact h9
      | true =>
        have e : (b && pz_al (fun k => decide (Pb k ≠ s) || set.testBit (Pa k)) (i + 1)) = (decide (Pb i ≠ s) || set.testBit (Pa i)) := by
          rw [pz_al, ← Bool.and_assoc, hb, Bool.true_and]
        rw [e] at h9
        refine ⟨fun c => absurd c (by decide), fun _ => ?_⟩
        rw [ix_2, nI_1, nI_clamp (by omega), nI_clamp (by omega), (hm.2 i (by omega)).2, (hm.2 i (by omega)).1, nI_eq (by omega) (by omega)]
        refine ⟨vp_in_nI (by omega) (by omega), fun c => ?_, fun c => ⟨vp_in_nI (by omega) (by omega), s_X5_has hset (by omega) (fun h1 => ⟨fun c => absurd c (by decide), fun _ => ?_⟩) (fun h1 => ⟨fun _ => ?_, fun c => absurd rfl c⟩)⟩⟩
        · show mx_l2 _ _ _ _
          rw [nI_1]
          simp only [c, ne_eq, not_false_eq_true, decide_true, Bool.true_or, if_true] at h9
          exact h9
        · show mx_l2 _ _ _ _
          rw [nI_1]
          simp only [h1, Bool.or_true, if_true] at h9
          exact h9
        · rw [nI_1]
          have e2 : (decide (Pb i ≠ s) || set.testBit (Pa i)) = false := by simp [c, h1]
          rw [e2] at h9
          exact h9
  have h0 := key np 0 (by omega)
  rw [pz_al, Bool.and_true] at h0
  exact ⟨np + 1, h0⟩
/-- its first loop: cellars -/
theorem s_X5_hp41 {s set : Nat} {post : Int32 → Prop} (ho : pz_ok ns K np Pa Pb) (hm : pz_M ns K np Pa Pb storey pair) (hset : set < 256) (hs : s < ns) (b : Bool)
    (hp : post (nI (if b && (pz_al (fun k => !(set.testBit k) || decide (K k 0 ≠ 2)) ns && pz_al (fun k => decide (Pb k ≠ s) || set.testBit (Pa k)) np) then 1 else 0))) : f_X5_hasPlace_41 storey (nI ns) (nI np) pair post (nI s) (nI set) (nI (if b then 1 else 0)) := by
  have hs8 := ho.1
  have key : ∀ k i, i + k = ns → mx_l2 (f_X5_hasPlace_45 storey (nI ns) (nI np) pair post (nI s) (nI set)) (k + 1) (nI (if b && pz_al (fun k => !(set.testBit k) || decide (K k 0 ≠ 2)) i then 1 else 0)) (nI i) := by
    intro k
    induction k with
    | zero =>
      intro i hi
      refine ⟨fun _ => s_X5_hp95 ho hm hset hs _ ?_, fun c => absurd (nI_le (by omega) (by omega)) c⟩
      rw [show i = ns by omega, Bool.and_assoc]
      exact hp
    | succ k ih =>
      intro i hi
      have h9 := ih (i + 1) (by omega)
      have hK := (ho.2.2.1 i (by omega)).1
      refine ⟨fun c => absurd c (nI_ge (by omega) (by omega)), fun _ => ?_⟩
      cases hb : (b && pz_al (fun k => !(set.testBit k) || decide (K k 0 ≠ 2)) i) with
      | false =>
        refine ⟨fun _ => ?_, fun c => absurd rfl c⟩
        have e : (b && pz_al (fun k => !(set.testBit k) || decide (K k 0 ≠ 2)) (i + 1)) = false := by
          rw [pz_al, ← Bool.and_assoc, hb, Bool.false_and]
        rw [e] at h9
        rw [nI_1]
        exact h9
      | true =>
        have e : (b && pz_al (fun k => !(set.testBit k) || decide (K k 0 ≠ 2)) (i + 1)) = (!(set.testBit i) || decide (K i 0 ≠ 2)) := by
          rw [pz_al, ← Bool.and_assoc, hb, Bool.true_and]
        rw [e] at h9
        refine ⟨fun c => absurd c (by decide), fun _ => s_X5_has hset (by omega) (fun h1 => ⟨fun c => absurd c (by decide), fun _ => ?_⟩) (fun h1 => ⟨fun _ => ?_, fun c => absurd rfl c⟩)⟩
        · rw [ix_5, nI_clamp (by omega), show storey (5 * i) = nI (K i 0) from hm.1 i (by omega) 0 (by omega)]
          have e2 : (nI (K i 0) = 2) ↔ K i 0 = 2 := nI_eqn 2 (by omega) (by omega)
          rw [e2]
          refine ⟨vp_in_nI (by omega) (by omega), fun c => ?_, fun c => ?_⟩
          · rw [nI_1]
            have e3 : (!(set.testBit i) || decide (K i 0 ≠ 2)) = false := by simp [h1, c]
            rw [e3] at h9
            exact h9
          · show mx_l2 _ _ _ _
            rw [nI_1]
            have e3 : (!(set.testBit i) || decide (K i 0 ≠ 2)) = true := by simp [c]
            rw [e3] at h9
            exact h9
        · show mx_l2 _ _ _ _
          rw [nI_1]
          have e3 : (!(set.testBit i) || decide (K i 0 ≠ 2)) = true := by simp [h1]
          rw [e3] at h9
          exact h9
  have h0 := key ns 0 (by omega)
  rw [pz_al, Bool.and_true] at h0
  exact ⟨ns + 1, h0⟩
theorem s_X5_hasPlace {s set : Nat} {post : Int32 → Prop} (ho : pz_ok ns K np Pa Pb) (hm : pz_M ns K np Pa Pb storey pair) (hset : set < 256) (hs : s < ns)
    (hp : post (nI (if pz_place ns K np Pa Pb s set then 1 else 0))) : f_X5_hasPlace storey (nI ns) (nI np) pair (nI s) (nI set) post := by
  have hs8 := ho.1
  have hK := (ho.2.2.1 s hs).1
  have hk : storey (5 * s) = nI (K s 0) := hm.1 s hs 0 (by omega)
  have e1 : (nI (K s 0) = 1) ↔ K s 0 = 1 := nI_eqn 1 (by omega) (by omega)
  have e3 : (nI (K s 0) = 3) ↔ K s 0 = 3 := nI_eqn 3 (by omega) (by omega)
  unfold pz_place at hp
  have no : ((decide (K s 0 ≠ 1) || decide (set = 0)) && (decide (K s 0 ≠ 3) || decide (pz_pc set < 3))) = false → f_X5_hasPlace_40 storey (nI ns) (nI np) pair post (nI s) (nI set) := by
    intro hb
    rw [hb] at hp
    exact s_X5_hp41 ho hm hset hs false hp
  have yes : ((decide (K s 0 ≠ 1) || decide (set = 0)) && (decide (K s 0 ≠ 3) || decide (pz_pc set < 3))) = true → f_X5_hasPlace_36 storey (nI ns) (nI np) pair post (nI s) (nI set) := by
    intro hb
    rw [hb] at hp
    exact s_X5_hp41 ho hm hset hs true hp
  have step16 : (K s 0 ≠ 1 ∨ set = 0) → f_X5_hasPlace_16 storey (nI ns) (nI np) pair post (nI s) (nI set) := by
    intro hr
    have hA : (decide (K s 0 ≠ 1) || decide (set = 0)) = true := by rcases hr with h | h <;> simp [h]
    unfold f_X5_hasPlace_16
    rw [ix_5, nI_clamp (by omega), hk, e3]
    refine ⟨vp_in_nI (by omega) (by omega), fun c => yes (by rw [hA]; simp [c]), fun c => s_X5_bits hset ⟨fun c4 => no ?_, fun c4 => yes ?_⟩⟩
    · have c5 : 3 ≤ pz_pc set := (nI_leI (a := 3) (by omega) (by have := pz_pc_le set; omega)).mp c4
      have c6 : ¬ pz_pc set < 3 := by omega
      simp [c, c6]
    · have c5 : ¬ 3 ≤ pz_pc set := fun z => c4 ((nI_leI (a := 3) (by omega) (by have := pz_pc_le set; omega)).mpr z)
      have c6 : pz_pc set < 3 := by omega
      rw [hA]; simp [c6]
  unfold f_X5_hasPlace
  rw [ix_5, nI_clamp (by omega), hk, e1]
  refine ⟨vp_in_nI (by omega) (by omega), fun c => step16 (Or.inl c), fun c => ⟨fun c2 => no ?_, fun c2 => step16 (Or.inr ((nI_eq0 (by omega)).mp c2))⟩⟩
  have c3 : ¬ set = 0 := fun z => c2 ((nI_eq0 (by omega)).mpr z)
  simp [c, c3]
theorem s_X5_whyBy {s set bear : Nat} {post : Int32 → Prop} (ho : pz_ok ns K np Pa Pb) (hm : pz_M ns K np Pa Pb storey pair) (hset : set < 256) (hs : s < ns) (hbear : bear < 2 ^ 31) (hp : post (nI (pz_why ns K np Pa Pb s set bear))) : f_X5_whyBy (nI ns) storey (nI np) pair (nI s) (nI set) (nI bear) post := by
  have hs8 := ho.1
  have hl := pz_ld_le ho set
  have hK := (ho.2.2.1 s hs).2.2.1
  refine s_X5_loadOfAll ho hm hset (s_X5_has hset (by omega) (fun hb => ⟨fun c => absurd c (by decide), fun _ => ?_⟩) (fun hb => ⟨fun _ => s_X5_hasPlace ho hm hset hs ?_, fun c => absurd rfl c⟩))
  · have e : pz_why ns K np Pa Pb s set bear = 1 := by unfold pz_why; rw [hb, if_pos rfl]
    rw [e] at hp; exact hp
  · cases z : pz_place ns K np Pa Pb s set with
    | true =>
      refine ⟨fun _ => ?_, fun c => absurd c (by decide)⟩
      rw [ix_5, ix_p2, nI_clamp (by omega), hm.1 s hs 2 (by omega), nI_leI (by omega) (by omega), nI_leI (by omega) (by omega)]
      refine ⟨vp_in_nI (by omega) (by omega), fun c1 => ⟨fun c2 => ?_, fun c2 => ?_⟩, fun c1 => ?_⟩
      · have e : pz_why ns K np Pa Pb s set bear = 0 := by unfold pz_why; rw [hb, z, if_neg (by simp), if_neg (by simp), if_neg (by omega), if_neg (by omega)]
        rw [e] at hp; exact hp
      · have e : pz_why ns K np Pa Pb s set bear = 4 := by unfold pz_why; rw [hb, z, if_neg (by simp), if_neg (by simp), if_neg (by omega), if_pos (by omega)]
        rw [e] at hp; exact hp
      · have e : pz_why ns K np Pa Pb s set bear = 3 := by unfold pz_why; rw [hb, z, if_neg (by simp), if_neg (by simp), if_pos (by omega)]
        rw [e] at hp; exact hp
    | false =>
      refine ⟨fun c => absurd rfl c, fun _ => ?_⟩
      have e : pz_why ns K np Pa Pb s set bear = 2 := by unfold pz_why; rw [hb, z, if_neg (by simp), if_pos rfl]
      rw [e] at hp; exact hp
end PZ2
