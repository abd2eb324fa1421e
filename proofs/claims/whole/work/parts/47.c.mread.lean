def rz_do : List (Nat × (Nat → Nat)) → rz_D → rz_D → Prop
  | [], D, D' => D' = D
  | (k, r) :: l, D, D' => k < 10 ∧ rz_bd D.1 D.2.2.1 k r ∧ rz_do l (rz_ap k r D) D'
def rz_lns (rd : Nat → Int32) : Nat → List (Nat × (Nat → Nat)) → Prop
  | _, [] => True
  | w, (k, r) :: l => rz_ln rd w k r ∧ rz_lns rd (w + 5) l
theorem rz_ok_n {D : rz_D} (h : rz_ok D) : D.1 ≤ 8 ∧ D.2.2.1 ≤ 8 := by
  obtain ⟨ns, K, np, Pa, Pb, nb, so, Wd⟩ := D
  exact ⟨h.1.1, h.1.2.1⟩
section RJ
variable {c : Nat → Nat} {tl : Nat} {mt : Nat → Int32}
theorem rz_T_do (htl : tl ≤ 200) {mf : Nat} {Df : rz_D} : ∀ (z m : Nat) (D : rz_D) (e : Nat) (l : List (Nat × (Nat → Nat))), e ≤ tl → rz_T c tl z D e m (-1) mf Df l → rz_do l D Df ∧ mf = m + l.length := by
  intro z
  induction z with
  | zero => intro m D e l he hT; exact hT.elim
  | succ z ih =>
    intro m D e l he hT
    rcases hT with ⟨e', hno, hf⟩ | ⟨k, r, x, l', hk, hW, hL, rfl, h3⟩
    · have h1 := rz_s_le (c := c) (rz_no_le he hno)
      exact absurd hf.symm (nI_nm1 (by omega))
    · have hx := rz_Lok_le hk (rz_tt he) hL
      have h1 := rz_s_le (c := c) hx
      rcases h3 with ⟨-, -, rfl, rfl, rfl⟩ | ⟨-, -, hf⟩ | ⟨-, -, hT⟩
      · exact ⟨⟨hk, rz_Lok_bd hk hL, rfl⟩, rfl⟩
      · exact absurd hf.symm (nI_nm1 (by omega))
      · obtain ⟨a1, a2⟩ := ih (m + 1) _ _ _ (rz_tt hx) hT
        refine ⟨⟨hk, rz_Lok_bd hk hL, a1⟩, ?_⟩
        rw [List.length_cons]
        omega
theorem s_readLoop {os op : Int32} {f : Int32} {mf : Nat} {Df : rz_D} {post : Int32 → Int32 → Int32 → Int32 → Int32 → Int32 → Int32 → Int32 → Int32 → Int64 → (Nat → Int32) → Prop} (htl : tl ≤ 200) (hb : ∀ j, j < tl → c j < 256 ∧ mt j = nI (c j)) (h0 : ∀ po rm rs rp ta dg nm tk rd', f ≠ -1 → post 0 po rm rs rp f ta dg nm tk rd') : ∀ (z m : Nat) (D : rz_D) (e : Nat) (l : List (Nat × (Nat → Nat))) (fa ta dg nm : Int32) (tk : Int64) (rd : Nat → Int32), m + z = 12 → rz_ok D → e ≤ tl → rz_T c tl z D e m f mf Df l →
    (∀ po rs rp fa ta dg nm tk rd', f = -1 → rz_lns rd' (5 * m) l → (∀ j, j < 5 * m → rd' j = rd j) → post 1 po (nI mf) rs rp fa ta dg nm tk rd') →
    mx_l11 (f_X5_isRead_28 os op (nI tl) mt post) (z + 1) 1 (nI e) (nI m) (nI D.1) (nI D.2.2.1) fa ta dg nm tk rd := by
  intro z
  induction z with
  | zero => intro m D e l fa ta dg nm tk rd hm hD he hT h1; exact hT.elim
  | succ z ih =>
    intro m D e l fa ta dg nm tk rd hm hD he hT h1
    obtain ⟨hn, hn2⟩ := rz_ok_n hD
    refine ⟨fun c => absurd c (by decide), fun _ => ?_⟩
    rw [ix_5, nI_1]
    rcases hT with ⟨e', hno, hf⟩ | ⟨k, r, x, l', hk, hW, hL, rfl, h3⟩
    · have hs := rz_s_le (c := c) (rz_no_le he hno)
      refine s_mLine_no (w := 5 * m) (ns := D.1) (np := D.2.2.1) htl hb he hn hn2 (by omega) hno (fun ta dg nm tk po rd' rp' rs' => ⟨fun c => absurd rfl c, fun _ => ?_⟩)
      rw [← hf]
      exact h0 _ _ _ _ _ _ _ _ _ (by rw [hf]; exact nI_nm1 (by omega))
    · have hx := rz_Lok_le hk (rz_tt he) hL
      have hs := rz_s_le (c := c) hx
      refine s_mLine_ok (w := 5 * m) (ns := D.1) (np := D.2.2.1) htl hb he hk hn hn2 (by omega) hW hL (fun ta dg nm tk rd' hln hfr => ⟨fun _ => s_nextToken htl hb hx (fun dg nm tk htk => ?_), fun c => absurd c (by decide)⟩)
      obtain ⟨-, -, -, k2, k3⟩ := htk
      rw [lg_cmp_eq, show (12 : Int32) ≤ nI (m + 1) ↔ 12 ≤ m + 1 from nI_leI (a := 12) (by omega) (by omega)]
      rcases h3 with ⟨hs1, hf, hmf, -, rfl⟩ | ⟨hs1, h12, hf⟩ | ⟨hs1, h12, hT⟩
      · have e2 := k2.mpr hs1
        have n3 : ¬ tk = -3 := by rw [e2]; decide
        have fin : post 1 (nI (rz_t c tl x)) (nI (m + 1)) (nI (rz_ns2 k D.1)) (nI (rz_np2 k D.2.2.1)) fa (nI (rz_s c tl x)) dg nm tk rd' := by
          rw [← hmf]
          exact h1 _ _ _ _ _ _ _ _ _ hf ⟨hln, trivial⟩ hfr
        refine ⟨fun _ => ⟨fun _ => ⟨fun _ => fin, fun z => ?_⟩, fun z => absurd rfl z⟩, fun z => absurd z n3⟩
        rw [lg_cmp_eq] at z
        exact absurd e2 z
      · have n2 : ¬ tk = -2 := fun z => hs1 (k2.mp z)
        have fin : post 0 (nI (rz_t c tl x)) (nI (m + 1)) (nI (rz_ns2 k D.1)) (nI (rz_np2 k D.2.2.1)) (nI (rz_s c tl x)) (nI (rz_s c tl x)) dg nm tk rd' := by
          rw [← hf]
          exact h0 _ _ _ _ _ _ _ _ _ (by rw [hf]; exact nI_nm1 (by omega))
        have stop : mx_l11 (f_X5_isRead_28 os op (nI tl) mt post) (z + 1) 0 (nI (rz_t c tl x)) (nI (m + 1)) (nI (rz_ns2 k D.1)) (nI (rz_np2 k D.2.2.1)) fa (nI (rz_s c tl x)) dg nm tk rd' := by
          refine ⟨fun _ => ⟨fun z => ?_, fun _ => ⟨fun _ => fin, fun z => absurd rfl z⟩⟩, fun z => absurd rfl z⟩
          rw [lg_cmp_eq] at z
          exact absurd z n2
        refine ⟨fun _ => stop, fun z => ⟨fun _ => stop, fun z2 => ?_⟩⟩
        rcases h12 with h | h
        · omega
        · exact absurd (k3.mp z) h
      · have e3 := k3.mpr hs1
        refine ⟨fun z => absurd e3 z, fun _ => ⟨fun z => absurd z (by omega), fun _ => ?_⟩⟩
        obtain ⟨a1, a2⟩ := rz_ap_ns (r := r) (D := D) hk
        have nx := ih (m + 1) (rz_ap k r D) (rz_t c tl x) l' fa (nI (rz_s c tl x)) dg nm tk rd' (by omega) (rz_ok_ap hk hD (rz_Lok_bd hk hL)) (rz_tt hx) hT (fun po rs rp fa ta dg nm tk rd2 hf hl2 hf2 => h1 _ _ _ _ _ _ _ _ _ hf ⟨rz_ln_fr (fun j hj => hf2 j (by omega)) hln, hl2⟩ (fun j hj => by rw [hf2 j (by omega)]; exact hfr j hj))
        rw [a1, a2] at nx
        exact nx
theorem s_isRead {D Df : rz_D} {f : Int32} {mf : Nat} {l : List (Nat × (Nat → Nat))} {po rm rs rp fa ta dg nm : Int32} {tk : Int64} {rd : Nat → Int32} {post : Int32 → Int32 → Int32 → Int32 → Int32 → Int32 → Int32 → Int32 → Int32 → Int64 → (Nat → Int32) → Prop} (htl : tl ≤ 200) (hb : ∀ j, j < tl → c j < 256 ∧ mt j = nI (c j)) (hD : rz_ok D) (hT : rz_T c tl 12 D 0 0 f mf Df l)
    (h0 : ∀ po rm rs rp ta dg nm tk rd', f ≠ -1 → post 0 po rm rs rp f ta dg nm tk rd')
    (h1 : ∀ po rs rp fa ta dg nm tk rd', f = -1 → rz_lns rd' 0 l → post 1 po (nI mf) rs rp fa ta dg nm tk rd') :
    f_X5_isRead (nI D.1) (nI D.2.2.1) (nI tl) mt po rm rs rp fa ta dg nm tk rd post :=
  ⟨13, s_readLoop htl hb h0 12 0 D 0 l fa ta dg nm tk rd (by omega) hD (Nat.zero_le _) hT (fun _ _ _ _ _ _ _ _ _ hf hl _ => h1 _ _ _ _ _ _ _ _ _ hf hl)⟩
end RJ
/-! lines done, in the model -/
section RK
variable {rd : Nat → Int32} {w : Nat}
theorem s_doLoop {ns : Nat} {mpr mwd : Nat → Int32} {mp mo mj : Int32} {post : (Nat → Int32) → Int32 → (Nat → Int32) → Int32 → Int32 → (Nat → Int32) → Int32 → Prop} (hn : ns < 8) (hw : w + 3 < 60) : ∀ z i st, i + z = 4 → (∀ st', (∀ q, st' q = if 5 * ns + i ≤ q ∧ q < 5 * ns + 4 then rd (w + (q - 5 * ns)) else st q) → f_X5_doLine_114 rd post mpr mp mwd mo mj st' (nI ns)) → mx_l2 (f_X5_doLine_79 rd post (nI w) mpr mp mwd mo mj (nI ns)) (z + 1) (nI i) st := by
  intro z
  induction z with
  | zero =>
    intro i st hz hp
    exact ⟨fun _ => hp st (fun q => by rw [if_neg (by omega)]), fun c => absurd ((nI_leI (a := 4) (by omega) (by omega)).mpr (by omega)) c⟩
  | succ z ih =>
    intro i st hz hp
    refine ⟨fun c => absurd ((nI_leI (a := 4) (by omega) (by omega)).mp c) (by omega), fun _ => ?_⟩
    rw [ix_5, nI_add, nI_add, nI_1, nI_clamp (n := 5 * ns + i) (by omega), nI_clamp (n := w + i) (by omega)]
    refine ⟨vp_in_nI (by omega) (by omega), vp_in_nI (by omega) (by omega), ih (i + 1) _ (by omega) (fun st' hst => hp st' (fun q => ?_))⟩
    rw [hst q]
    by_cases h : q = 5 * ns + i
    · subst h
      rw [if_neg (by omega), pk_us, if_pos (by omega)]
      congr 1
      omega
    · rw [pk_un h]
      by_cases h2 : 5 * ns + i ≤ q ∧ q < 5 * ns + 4
      · rw [if_pos (by omega), if_pos h2]
      · rw [if_neg (by omega), if_neg h2]
theorem s_doLine {D : rz_D} {k : Nat} {r : Nat → Nat} {ms mj mo mp : Int32} {mst mpr mwd : Nat → Int32} {post : (Nat → Int32) → Int32 → (Nat → Int32) → Int32 → Int32 → (Nat → Int32) → Int32 → Prop} (hk : k < 10) (hw : w + 3 < 60) (hD : rz_ok D) (hb : rz_bd D.1 D.2.2.1 k r) (hl : rz_ln rd w k r) (hM : rz_M D ms mj mo mp mst mpr mwd)
    (hp : ∀ ms' mj' mo' mp' mst' mpr' mwd', rz_M (rz_ap k r D) ms' mj' mo' mp' mst' mpr' mwd' → post mpr' mp' mwd' mo' mj' mst' ms') : f_X5_doLine rd mpr mp mwd mo mj mst ms (nI w) post := by
  obtain ⟨ns, K, np, Pa, Pb, nb, so, Wd⟩ := D
  obtain ⟨⟨o1, o2, o3, o4⟩, o5, o6, o7⟩ := hD
  obtain ⟨⟨e1, e2, e3, e4⟩, ⟨m1, m2⟩, m3⟩ := hM
  subst e1 e2 e3 e4
  obtain ⟨l0, l1, l2, l3⟩ := hl
  unfold f_X5_doLine
  rw [nI_1 w, ix_p2 w, ix_p3 w, nI_clamp (n := w) (by omega), nI_clamp (n := w + 1) (by omega), nI_clamp (n := w + 2) (by omega), nI_clamp (n := w + 3) (by omega), l0]
  refine ⟨rz_v60 (by omega), rz_v60 (by omega), rz_v60 (by omega), ?_⟩
  rcases rz_k10 hk with hk4 | rfl | rfl | rfl | rfl | rfl | rfl
  · have e0 : rz_mk k = k := if_pos hk4
    have e9 : rz_ar k = 3 := if_pos hk4
    rw [e0] at l0 ⊢
    have l1 := l1 (by omega)
    have l2 := l2 (by omega)
    have l3 := l3 (by omega)
    simp only [rz_bd, if_pos hk4] at hb
    simp only [rz_ap, if_pos hk4] at hp
    have H : ∃ n : Nat, mx_l2 (f_X5_doLine_79 rd post (nI w) mpr (nI np) mwd (nI so) (nI nb) (nI ns)) n 0 mst := by
      refine ⟨5, s_doLoop hb.1 hw 4 0 mst (by omega) (fun st' hst => ?_)⟩
      unfold f_X5_doLine_114
      rw [ix_5, ix_p4, nI_1, nI_clamp (n := 5 * ns + 4) (by omega)]
      refine ⟨vp_in_nI (by omega) (by omega), hp _ _ _ _ _ _ _ ⟨⟨rfl, rfl, rfl, rfl⟩, ⟨fun s hs f hf => ?_, m2⟩, m3⟩⟩
      by_cases e : s = ns
      · subst e
        rcases (show f = 0 ∨ f = 1 ∨ f = 2 ∨ f = 3 ∨ f = 4 by omega) with rfl | rfl | rfl | rfl | rfl
        · rw [pk_un (by omega), hst, if_pos (by omega), show w + (5 * s + 0 - 5 * s) = w by omega, l0]; simp
        · rw [pk_un (by omega), hst, if_pos (by omega), show w + (5 * s + 1 - 5 * s) = w + 1 by omega, l1]; simp
        · rw [pk_un (by omega), hst, if_pos (by omega), show w + (5 * s + 2 - 5 * s) = w + 2 by omega, l2]; simp
        · rw [pk_un (by omega), hst, if_pos (by omega), show w + (5 * s + 3 - 5 * s) = w + 3 by omega, l3]; simp
        · rw [pk_us]; simp; rfl
      · show _ = nI (if s = ns then (if f = 0 then k else if f = 4 then 0 else r f) else K s f)
        rw [pk_un (by omega), hst, if_neg (by omega), if_neg e]
        exact m1 s (by omega) f hf
    refine ⟨fun _ => H, fun c0 => ⟨fun _ => H, fun c1 => ⟨fun _ => H, fun c2 => ⟨fun _ => H, fun c3 => ?_⟩⟩⟩⟩
    exfalso
    rcases (show k = 0 ∨ k = 1 ∨ k = 2 ∨ k = 3 by omega) with rfl | rfl | rfl | rfl
    · exact c0 rfl
    · exact c1 rfl
    · exact c2 rfl
    · exact c3 rfl
  · have l1 := l1 (by decide)
    have l2 := l2 (by decide)
    have hb : r 1 < ns ∧ r 2 < 100 := hb
    show (nI 5 = 0 → _) ∧ (¬ nI 5 = 0 → _)
    refine ⟨fun z => absurd z (by decide), fun _ => ⟨fun z => absurd z (by decide), fun _ => ⟨fun z => absurd z (by decide), fun _ => ⟨fun z => absurd z (by decide), fun _ => ⟨fun z => absurd z (by decide), fun _ => ⟨fun _ => ?_, fun z => absurd rfl z⟩⟩⟩⟩⟩⟩
    rw [l1, l2, ix_5, ix_p4, nI_clamp (n := 5 * r 1 + 4) (by omega)]
    refine ⟨vp_in_nI (by omega) (by omega), hp _ _ _ _ _ _ _ ⟨⟨rfl, rfl, rfl, rfl⟩, ⟨fun s hs f hf => ?_, m2⟩, m3⟩⟩
    have hs : s < ns := hs
    show _ = nI (if s = r 1 ∧ f = 4 then r 2 else K s f)
    by_cases e : s = r 1 ∧ f = 4
    · rw [if_pos e, e.1, e.2, pk_us]
    · rw [if_neg e, pk_un (by omega)]
      exact m1 s hs f hf
  · have l1 := l1 (by decide)
    show (nI 6 = 0 → _) ∧ (¬ nI 6 = 0 → _)
    refine ⟨fun z => absurd z (by decide), fun _ => ⟨fun z => absurd z (by decide), fun _ => ⟨fun z => absurd z (by decide), fun _ => ⟨fun z => absurd z (by decide), fun _ => ⟨fun z => absurd z (by decide), fun _ => ⟨fun z => absurd z (by decide), fun _ => ⟨fun _ => ?_, fun z => absurd rfl z⟩⟩⟩⟩⟩⟩⟩
    rw [l1]
    exact hp _ _ _ _ _ _ _ ⟨⟨rfl, rfl, rfl, rfl⟩, ⟨m1, m2⟩, m3⟩
  · have l1 := l1 (by decide)
    show (nI 7 = 0 → _) ∧ (¬ nI 7 = 0 → _)
    refine ⟨fun z => absurd z (by decide), fun _ => ⟨fun z => absurd z (by decide), fun _ => ⟨fun z => absurd z (by decide), fun _ => ⟨fun z => absurd z (by decide), fun _ => ⟨fun z => absurd z (by decide), fun _ => ⟨fun z => absurd z (by decide), fun _ => ⟨fun z => absurd z (by decide), fun _ => ⟨fun _ => ?_, fun z => absurd rfl z⟩⟩⟩⟩⟩⟩⟩⟩
    rw [l1]
    exact hp _ _ _ _ _ _ _ ⟨⟨rfl, rfl, rfl, rfl⟩, ⟨m1, m2⟩, m3⟩
  · have l1 := l1 (by decide)
    have l2 := l2 (by decide)
    have l3 := l3 (by decide)
    have hb : (r 1 ≤ r 2 ∧ r 2 < 40) ∧ r 3 < 10 := hb
    show (nI 8 = 0 → _) ∧ (¬ nI 8 = 0 → _)
    refine ⟨fun z => absurd z (by decide), fun _ => ⟨fun z => absurd z (by decide), fun _ => ⟨fun z => absurd z (by decide), fun _ => ⟨fun z => absurd z (by decide), fun _ => ⟨fun z => absurd z (by decide), fun _ => ⟨fun z => absurd z (by decide), fun _ => ⟨fun z => absurd z (by decide), fun _ => ⟨fun z => absurd z (by decide), fun _ => ⟨fun _ => ⟨rz_v60 (by omega), ?_⟩, fun z => absurd rfl z⟩⟩⟩⟩⟩⟩⟩⟩⟩
    rw [l1, l2, l3]
    refine ⟨_, s_putWind (a := 0) hb.1.2 (r 2 + 1 - r 1) (r 1) mwd (by omega) (fun w' hw' => hp _ _ _ _ _ _ _ ⟨⟨rfl, rfl, rfl, rfl⟩, ⟨m1, m2⟩, fun d hd => ?_⟩)⟩
    rw [hw' d]
    show _ = nI (if r 1 ≤ d ∧ d ≤ r 2 then r 3 else Wd d)
    split
    · rfl
    · exact m3 d hd
  · have l1 := l1 (by decide)
    have l2 := l2 (by decide)
    have hb : np < 8 ∧ r 1 < ns ∧ r 2 < ns := hb
    show (nI 9 = 0 → _) ∧ (¬ nI 9 = 0 → _)
    refine ⟨fun z => absurd z (by decide), fun _ => ⟨fun z => absurd z (by decide), fun _ => ⟨fun z => absurd z (by decide), fun _ => ⟨fun z => absurd z (by decide), fun _ => ⟨fun z => absurd z (by decide), fun _ => ⟨fun z => absurd z (by decide), fun _ => ⟨fun z => absurd z (by decide), fun _ => ⟨fun z => absurd z (by decide), fun _ => ⟨fun z => absurd z (by decide), fun _ => ?_⟩⟩⟩⟩⟩⟩⟩⟩⟩
    rw [l1, l2, ix_2, nI_1 (2 * np), nI_1 np, nI_clamp (n := 2 * np) (by omega), nI_clamp (n := 2 * np + 1) (by omega)]
    refine ⟨vp_in_nI (by omega) (by omega), vp_in_nI (by omega) (by omega), hp _ _ _ _ _ _ _ ⟨⟨rfl, rfl, rfl, rfl⟩, ⟨m1, fun q hq => ?_⟩, m3⟩⟩
    have hq : q < np + 1 := hq
    show _ = nI (if q = np then r 1 else Pa q) ∧ _ = nI (if q = np then r 2 else Pb q)
    by_cases e : q = np
    · subst e
      rw [if_pos rfl, if_pos rfl, pk_us, pk_un (by omega), pk_us]
      exact ⟨rfl, rfl⟩
    · rw [if_neg e, if_neg e, pk_un (by omega), pk_un (by omega), pk_un (by omega), pk_un (by omega)]
      exact m2 q (by omega)
  · show (nI 4 = 0 → _) ∧ (¬ nI 4 = 0 → _)
    refine ⟨fun z => absurd z (by decide), fun _ => ⟨fun z => absurd z (by decide), fun _ => ⟨fun z => absurd z (by decide), fun _ => ⟨fun z => absurd z (by decide), fun _ => ⟨fun _ => ?_, fun z => absurd rfl z⟩⟩⟩⟩⟩
    refine ⟨41, s_putWind (a := 0) (b := 39) (by omega) 40 0 mwd (by omega) (fun w' hw' => hp _ _ _ _ _ _ _ ⟨⟨rfl, rfl, rfl, rfl⟩, ⟨fun s hs => absurd hs (Nat.not_lt_zero s), fun q hq => absurd hq (Nat.not_lt_zero q)⟩, fun d hd => ?_⟩)⟩
    rw [hw' d, if_pos (by omega)]
    rfl
end RK
