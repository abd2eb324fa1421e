/-! what a line does -/
abbrev rz_D : Type := Nat × (Nat → Nat → Nat) × Nat × (Nat → Nat) × (Nat → Nat) × Nat × Nat × (Nat → Nat)
def rz_ok : rz_D → Prop
  | (ns, K, np, Pa, Pb, nb, so, Wd) => pz_ok ns K np Pa Pb ∧ nb ≤ 999 ∧ (1 ≤ so ∧ so ≤ 99) ∧ ∀ d, d < 40 → Wd d ≤ 9
def rz_X : rz_D → Int32 → Int32 → Int32 → Int32 → Int32 → (Nat → Int32) → (Nat → Int32) → (Nat → Int32) → (Nat → Int32) → (Nat → Int32) → (Nat → Int32) → (Nat → Int32) → Prop
  | (ns, K, np, Pa, Pb, nb, so, Wd), xs, xp, xb, xo, xc, xk, xw, xt, xh, xf, xa, xv => (xs = nI ns ∧ xp = nI np ∧ xb = nI nb ∧ xo = nI so) ∧ pz_X ns K np Pa Pb xc xk xw xt xh xf xa ∧ ∀ d, d < 40 → xv d = nI (Wd d)
def rz_M : rz_D → Int32 → Int32 → Int32 → Int32 → (Nat → Int32) → (Nat → Int32) → (Nat → Int32) → Prop
  | (ns, K, np, Pa, Pb, nb, so, Wd), ms, mj, mo, mp, mst, mpr, mwd => (ms = nI ns ∧ mj = nI nb ∧ mo = nI so ∧ mp = nI np) ∧ pz_M ns K np Pa Pb mst mpr ∧ ∀ d, d < 40 → mwd d = nI (Wd d)
def rz_ap (k : Nat) (r : Nat → Nat) : rz_D → rz_D
  | (ns, K, np, Pa, Pb, nb, so, Wd) =>
    if k < 4 then (ns + 1, fun s f => if s = ns then (if f = 0 then k else if f = 4 then 0 else r f) else K s f, np, Pa, Pb, nb, so, Wd)
    else if k = 4 then (ns, fun s f => if s = r 1 ∧ f = 4 then r 2 else K s f, np, Pa, Pb, nb, so, Wd)
    else if k = 5 then (ns, K, np, Pa, Pb, r 1, so, Wd)
    else if k = 6 then (ns, K, np, Pa, Pb, nb, r 1, Wd)
    else if k = 7 then (ns, K, np, Pa, Pb, nb, so, fun d => if r 1 ≤ d ∧ d ≤ r 2 then r 3 else Wd d)
    else if k = 8 then (ns, K, np + 1, fun i => if i = np then r 1 else Pa i, fun i => if i = np then r 2 else Pb i, nb, so, Wd)
    else (0, K, 0, Pa, Pb, 500, 10, fun _ => 0)
/-- what is known of the numbers of a line -/
def rz_bd (ns np k : Nat) (r : Nat → Nat) : Prop :=
  if k < 4 then ns < 8 ∧ (1 ≤ r 1 ∧ r 1 < 100) ∧ r 2 < 1000 ∧ (1 ≤ r 3 ∧ r 3 < 10)
  else if k = 4 then r 1 < ns ∧ r 2 < 100
  else if k = 5 then r 1 < 1000
  else if k = 6 then 1 ≤ r 1 ∧ r 1 < 100
  else if k = 7 then (r 1 ≤ r 2 ∧ r 2 < 40) ∧ r 3 < 10
  else if k = 8 then np < 8 ∧ r 1 < ns ∧ r 2 < ns
  else True
theorem rz_k10 {k : Nat} (h : k < 10) : k < 4 ∨ k = 4 ∨ k = 5 ∨ k = 6 ∨ k = 7 ∨ k = 8 ∨ k = 9 := by omega
theorem rz_ok_ap {k : Nat} {r : Nat → Nat} {D : rz_D} (hk : k < 10) (h : rz_ok D) (hb : rz_bd D.1 D.2.2.1 k r) : rz_ok (rz_ap k r D) := by
  obtain ⟨ns, K, np, Pa, Pb, nb, so, Wd⟩ := D
  obtain ⟨⟨h1, h2, h3, h4⟩, h5, h6, h7⟩ := h
  rcases rz_k10 hk with hk | rfl | rfl | rfl | rfl | rfl | rfl
  · simp only [rz_bd, if_pos hk] at hb
    simp only [rz_ap, if_pos hk]
    refine ⟨⟨by omega, h2, fun s hs => ?_, fun q hq => ?_⟩, h5, h6, h7⟩
    · by_cases e : s = ns
      · subst e
        simp only [if_true, show ¬ (1 = 0) by omega, show ¬ (2 = 0) by omega, show ¬ (3 = 0) by omega, show ¬ (4 = 0) by omega, show ¬ (1 = 4) by omega, show ¬ (2 = 4) by omega, show ¬ (3 = 4) by omega, if_false]
        omega
      · simp only [if_neg e]
        exact h3 s (by omega)
    · have := h4 q hq; omega
  · refine ⟨⟨h1, h2, fun s hs => ?_, h4⟩, h5, h6, h7⟩
    have hb : r 1 < ns ∧ r 2 < 100 := hb
    have := h3 s hs
    by_cases e : s = r 1
    · simp [e]
      rw [e] at this
      omega
    · simp [e]
      omega
  · have hb : r 1 < 1000 := hb
    exact ⟨⟨h1, h2, h3, h4⟩, by show r 1 ≤ 999; omega, h6, h7⟩
  · have hb : 1 ≤ r 1 ∧ r 1 < 100 := hb
    exact ⟨⟨h1, h2, h3, h4⟩, h5, by show 1 ≤ r 1 ∧ r 1 ≤ 99; omega, h7⟩
  · have hb : (r 1 ≤ r 2 ∧ r 2 < 40) ∧ r 3 < 10 := hb
    refine ⟨⟨h1, h2, h3, h4⟩, h5, h6, fun d hd => ?_⟩
    show (if r 1 ≤ d ∧ d ≤ r 2 then r 3 else Wd d) ≤ 9
    have := h7 d hd
    split <;> omega
  · have hb : np < 8 ∧ r 1 < ns ∧ r 2 < ns := hb
    refine ⟨⟨h1, by show np + 1 ≤ 8; omega, h3, fun q hq => ?_⟩, h5, h6, h7⟩
    show (if q = np then r 1 else Pa q) < ns ∧ (if q = np then r 2 else Pb q) < ns
    by_cases e : q = np
    · rw [if_pos e, if_pos e]; exact hb.2
    · rw [if_neg e, if_neg e]
      have hq : q < np + 1 := hq
      exact h4 q (by omega)
  · exact ⟨⟨by show 0 ≤ 8; omega, by show 0 ≤ 8; omega, fun s hs => absurd hs (Nat.not_lt_zero s), fun q hq => absurd hq (Nat.not_lt_zero q)⟩, by show 500 ≤ 999; omega, by show 1 ≤ 10 ∧ 10 ≤ 99; omega, fun d _ => Nat.zero_le 9⟩
section RD
variable {ns np nb so : Nat} {K : Nat → Nat → Nat} {Pa Pb Wd : Nat → Nat} {xs xp xb xo xc : Int32} {xk xw xt xh xf xa xv : Nat → Int32} {ms mj mo mp : Int32} {mst mpr mwd : Nat → Int32} {r : Nat → Nat}
theorem x_storey {k : Nat} (hk : k < 4) (ho : pz_ok ns K np Pa Pb) (hn : ns < 8) (h : rz_X (ns, K, np, Pa, Pb, nb, so, Wd) xs xp xb xo xc xk xw xt xh xf xa xv) (c2 : Int32) (hc : (k = 2 → c2 = xc ||| ((1 : Int32) <<< (nI ns &&& 31))) ∧ (k ≠ 2 → c2 = xc)) : rz_X (rz_ap k r (ns, K, np, Pa, Pb, nb, so, Wd)) (nI (ns + 1)) xp xb xo c2 (upd xk ns (nI k)) (upd xw ns (nI (r 1))) (upd xt ns (nI (r 2))) (upd xh ns (nI (r 3))) (upd xf ns 0) (upd xa ns 0) xv := by
  obtain ⟨⟨e1, e2, e3, e4⟩, ⟨⟨cel, q1, q2, q3⟩, h2⟩, h3⟩ := h
  simp only [rz_ap, if_pos hk]
  refine ⟨⟨rfl, e2, e3, e4⟩, ⟨?_, fun s hs => ?_⟩, h3⟩
  · by_cases c : k = 2
    · refine ⟨cel ||| 2 ^ ns, pz_or_lt cel q1 ns hn, by rw [hc.1 c, q2, pz_or cel q1 ns hn], fun i hi => ?_⟩
      rw [pz_tb_or, Bool.or_eq_true, q3 i hi, decide_eq_true_eq]
      by_cases e : i = ns
      · subst e; simp [c]
      · simp only [e, if_false, show ¬ ns = i from fun z => e z.symm, or_false]
        constructor <;> intro z <;> exact ⟨by omega, z.2⟩
    · refine ⟨cel, q1, by rw [hc.2 c, q2], fun i hi => ?_⟩
      rw [q3 i hi]
      by_cases e : i = ns
      · subst e; simp [c]
      · simp only [e, if_false]
        constructor <;> intro z <;> exact ⟨by omega, z.2⟩
  · by_cases e : s = ns
    · subst e
      simp only [pk_us, if_true, show ¬ (1 = 0) by omega, show ¬ (2 = 0) by omega, show ¬ (3 = 0) by omega, show ¬ (4 = 0) by omega, show ¬ (1 = 4) by omega, show ¬ (2 = 4) by omega, show ¬ (3 = 4) by omega, if_false]
      refine ⟨trivial, trivial, trivial, trivial, rfl, 0, by omega, rfl, fun i hi => ⟨fun z => absurd z (by simp), ?_⟩⟩
      rintro ⟨q, a1, a2, a3⟩
      have := (ho.2.2.2 q a1).2
      omega
    · simp only [pk_un e, if_neg e]
      exact h2 s (by omega)
theorem x_folk (hn : r 1 < ns) (h : rz_X (ns, K, np, Pa, Pb, nb, so, Wd) xs xp xb xo xc xk xw xt xh xf xa xv) : rz_X (rz_ap 4 r (ns, K, np, Pa, Pb, nb, so, Wd)) xs xp xb xo xc xk xw xt xh (upd xf (r 1) (nI (r 2))) xa xv := by
  obtain ⟨e1, ⟨⟨cel, q1, q2, q3⟩, h2⟩, h3⟩ := h
  refine ⟨e1, ⟨⟨cel, q1, q2, fun i hi => ?_⟩, fun s hs => ?_⟩, h3⟩
  · rw [q3 i hi]; simp
  · obtain ⟨a1, a2, a3, a4, a5, a6⟩ := h2 s hs
    refine ⟨?_, ?_, ?_, ?_, ?_, a6⟩
    · simpa using a1
    · simpa using a2
    · simpa using a3
    · simpa using a4
    · by_cases e : s = r 1
      · subst e; simp [pk_us]
      · rw [pk_un e]; simpa [e] using a5
theorem x_pair (ho : pz_ok ns K np Pa Pb) (h1 : r 1 < ns) (h2 : r 2 < ns) (h : rz_X (ns, K, np, Pa, Pb, nb, so, Wd) xs xp xb xo xc xk xw xt xh xf xa xv) : rz_X (rz_ap 8 r (ns, K, np, Pa, Pb, nb, so, Wd)) xs (nI (np + 1)) xb xo xc xk xw xt xh xf (upd xa (r 2) (xa (r 2) ||| ((1 : Int32) <<< (nI (r 1) &&& 31)))) xv := by
  have hn8 := ho.1
  obtain ⟨⟨e1, e2, e3, e4⟩, ⟨hc, h2'⟩, h3⟩ := h
  refine ⟨⟨e1, rfl, e3, e4⟩, ⟨hc, fun s hs => ?_⟩, h3⟩
  obtain ⟨a1, a2, a3, a4, a5, ab, b1, b2, b3⟩ := h2' s hs
  refine ⟨a1, a2, a3, a4, a5, ?_⟩
  by_cases e : s = r 2
  · subst e
    refine ⟨ab ||| 2 ^ r 1, pz_or_lt ab b1 _ (by omega), by rw [pk_us, b2, pz_or ab b1 _ (by omega)], fun i hi => ?_⟩
    rw [pz_tb_or, Bool.or_eq_true, b3 i hi, decide_eq_true_eq]
    constructor
    · rintro (⟨q, c1, c2, c3⟩ | hh)
      · refine ⟨q, by omega, ?_, ?_⟩
        · simp only [show ¬ q = np by omega, if_false]; exact c2
        · simp only [show ¬ q = np by omega, if_false]; exact c3
      · exact ⟨np, by omega, by simp, by simpa using hh⟩
    · rintro ⟨q, c1, c2, c3⟩
      by_cases hq : q = np
      · simp only [hq, if_true] at c3
        exact Or.inr c3
      · simp only [hq, if_false] at c2 c3
        exact Or.inl ⟨q, by omega, c2, c3⟩
  · refine ⟨ab, b1, by rw [pk_un e]; exact b2, fun i hi => ?_⟩
    rw [b3 i hi]
    constructor
    · rintro ⟨q, c1, c2, c3⟩
      refine ⟨q, by omega, ?_, ?_⟩
      · simp only [show ¬ q = np by omega, if_false]; exact c2
      · simp only [show ¬ q = np by omega, if_false]; exact c3
    · rintro ⟨q, c1, c2, c3⟩
      by_cases hq : q = np
      · simp only [hq, if_true] at c2
        exact absurd c2.symm e
      · simp only [hq, if_false] at c2 c3
        exact ⟨q, by omega, c2, c3⟩
theorem x_site {xv2 : Nat → Int32} (h : rz_X (ns, K, np, Pa, Pb, nb, so, Wd) xs xp xb xo xc xk xw xt xh xf xa xv) (hv : ∀ d, d < 40 → xv2 d = 0) : rz_X (rz_ap 9 r (ns, K, np, Pa, Pb, nb, so, Wd)) 0 0 500 10 0 xk xw xt xh xf xa xv2 :=
  ⟨⟨rfl, rfl, rfl, rfl⟩, ⟨⟨0, by omega, rfl, fun i hi => ⟨fun z => absurd z (by simp), fun z => absurd z.1 (Nat.not_lt_zero i)⟩⟩, fun s hs => absurd hs (Nat.not_lt_zero s)⟩, fun d hd => hv d hd⟩
end RD
