section RE
variable {c : Nat → Nat} {tl : Nat} {xby mt : Nat → Int32}
theorem s_tellWind {a b : Nat} {v : Int32} {post : (Nat → Int32) → Prop} (hb : b < 40) : ∀ z d w, d + z = b + 1 → (∀ w', (∀ q, w' q = if d ≤ q ∧ q ≤ b then v else w q) → post w') → mx_l2 (f_X1_tellWind_3 post (nI b) v) (z + 1) (nI d) w := by
  intro z
  induction z with
  | zero =>
    intro d w hz hp
    refine ⟨fun c => absurd c (nI_pos (by omega)), fun _ => ⟨fun _ => hp w (fun q => by rw [if_neg (by omega)]), fun c => absurd ((nI_ltI (by omega) (by omega)).mpr (by omega)) c⟩⟩
  | succ z ih =>
    intro d w hz hp
    refine ⟨fun c => absurd c (nI_pos (by omega)), fun _ => ⟨fun c => absurd ((nI_ltI (by omega) (by omega)).mp c) (by omega), fun _ => ⟨fun c => absurd c (nI_ge (b := 40) (by omega) (by omega)), fun _ => ⟨vp_in_nI (by omega) (by omega), ?_⟩⟩⟩⟩
    rw [nI_1, nI_clamp (by omega)]
    refine ih (d + 1) _ (by omega) (fun w' hw => hp w' (fun q => ?_))
    rw [hw q]
    by_cases h : q = d
    · subst h
      rw [if_neg (by omega), pk_us, if_pos (by omega)]
    · rw [pk_un h]
      by_cases h2 : d ≤ q ∧ q ≤ b
      · rw [if_pos (by omega), if_pos h2]
      · rw [if_neg (by omega), if_neg h2]
theorem s_putWind {a b : Nat} {v : Int32} {post : (Nat → Int32) → Prop} (hb : b < 40) : ∀ z d w, d + z = b + 1 → (∀ w', (∀ q, w' q = if d ≤ q ∧ q ≤ b then v else w q) → post w') → mx_l2 (f_X5_putWind_3 post (nI b) v) (z + 1) (nI d) w := by
  intro z
  induction z with
  | zero =>
    intro d w hz hp
    exact ⟨fun _ => hp w (fun q => by rw [if_neg (by omega)]), fun c => absurd ((nI_ltI (by omega) (by omega)).mpr (by omega)) c⟩
  | succ z ih =>
    intro d w hz hp
    refine ⟨fun c => absurd ((nI_ltI (by omega) (by omega)).mp c) (by omega), fun _ => ⟨vp_in_nI (by omega) (by omega), ?_⟩⟩
    rw [nI_1, nI_clamp (by omega)]
    refine ih (d + 1) _ (by omega) (fun w' hw => hp w' (fun q => ?_))
    rw [hw q]
    by_cases h : q = d
    · subst h
      rw [if_neg (by omega), pk_us, if_pos (by omega)]
    · rw [pk_un h]
      by_cases h2 : d ≤ q ∧ q ≤ b
      · rw [if_pos (by omega), if_pos h2]
      · rw [if_neg (by omega), if_neg h2]
def rz_nN (c : Nat → Nat) (tl e lo hx : Nat) : Prop := ∀ v, ¬ rz_N c tl e lo hx v
/-- a line that stands, from the token behind its word on -/
def rz_Lok (c : Nat → Nat) (tl ns np e k : Nat) (r : Nat → Nat) (e' : Nat) : Prop :=
  if k < 4 then ns < 8 ∧ rz_N c tl e 1 100 (r 1) ∧ rz_N c tl (rz_t c tl e) 0 1000 (r 2) ∧ rz_N c tl (rz_t c tl (rz_t c tl e)) 1 10 (r 3) ∧ e' = rz_t c tl (rz_t c tl (rz_t c tl e))
  else if k = 4 then rz_N c tl e 0 ns (r 1) ∧ rz_N c tl (rz_t c tl e) 0 100 (r 2) ∧ e' = rz_t c tl (rz_t c tl e)
  else if k = 5 then rz_N c tl e 0 1000 (r 1) ∧ e' = rz_t c tl e
  else if k = 6 then rz_N c tl e 1 100 (r 1) ∧ e' = rz_t c tl e
  else if k = 7 then rz_N c tl e 0 40 (r 1) ∧ rz_N c tl (rz_t c tl e) (r 1) 40 (r 2) ∧ rz_N c tl (rz_t c tl (rz_t c tl e)) 0 10 (r 3) ∧ e' = rz_t c tl (rz_t c tl (rz_t c tl e))
  else if k = 8 then np < 8 ∧ rz_N c tl e 0 ns (r 1) ∧ rz_N c tl (rz_t c tl e) 0 ns (r 2) ∧ r 2 ≠ r 1 ∧ e' = rz_t c tl (rz_t c tl e)
  else e' = e
/-- a line that does not, and where -/
def rz_Lno (c : Nat → Nat) (tl ns np e0 e k e' : Nat) : Prop :=
  if k < 4 then (8 ≤ ns ∧ e' = e0) ∨ (ns < 8 ∧ ((rz_nN c tl e 1 100 ∧ e' = e) ∨ (∃ v, rz_N c tl e 1 100 v ∧ ((rz_nN c tl (rz_t c tl e) 0 1000 ∧ e' = rz_t c tl e) ∨ (∃ v, rz_N c tl (rz_t c tl e) 0 1000 v ∧ rz_nN c tl (rz_t c tl (rz_t c tl e)) 1 10 ∧ e' = rz_t c tl (rz_t c tl e))))))
  else if k = 4 then (rz_nN c tl e 0 ns ∧ e' = e) ∨ (∃ v, rz_N c tl e 0 ns v ∧ rz_nN c tl (rz_t c tl e) 0 100 ∧ e' = rz_t c tl e)
  else if k = 5 then rz_nN c tl e 0 1000 ∧ e' = e
  else if k = 6 then rz_nN c tl e 1 100 ∧ e' = e
  else if k = 7 then (rz_nN c tl e 0 40 ∧ e' = e) ∨ (∃ v, rz_N c tl e 0 40 v ∧ ((rz_nN c tl (rz_t c tl e) v 40 ∧ e' = rz_t c tl e) ∨ (∃ v2, rz_N c tl (rz_t c tl e) v 40 v2 ∧ rz_nN c tl (rz_t c tl (rz_t c tl e)) 0 10 ∧ e' = rz_t c tl (rz_t c tl e))))
  else if k = 8 then (8 ≤ np ∧ e' = e0) ∨ (np < 8 ∧ ((rz_nN c tl e 0 ns ∧ e' = e) ∨ (∃ v, rz_N c tl e 0 ns v ∧ ((rz_nN c tl (rz_t c tl e) 0 ns ∨ rz_N c tl (rz_t c tl e) 0 ns v) ∧ e' = rz_t c tl e))))
  else False
theorem rz_Lok_bd {ns np e k e' : Nat} {r : Nat → Nat} (hk : k < 10) (h : rz_Lok c tl ns np e k r e') : rz_bd ns np k r := by
  unfold rz_Lok at h
  unfold rz_bd
  rcases rz_k10 hk with hk | rfl | rfl | rfl | rfl | rfl | rfl
  · rw [if_pos hk] at h ⊢
    exact ⟨h.1, ⟨h.2.1.2.2.1, h.2.1.2.2.2⟩, h.2.2.1.2.2.2, h.2.2.2.1.2.2.1, h.2.2.2.1.2.2.2⟩
  · exact ⟨h.1.2.2.2, h.2.1.2.2.2⟩
  · exact h.1.2.2.2
  · exact ⟨h.1.2.2.1, h.1.2.2.2⟩
  · exact ⟨⟨h.2.1.2.2.1, h.2.1.2.2.2⟩, h.2.2.1.2.2.2⟩
  · exact ⟨h.1, h.2.1.2.2.2, h.2.2.1.2.2.2⟩
  · trivial
theorem rz_tt {e : Nat} (h : e ≤ tl) : rz_t c tl e ≤ tl := (rz_t_le (c := c) h).2.1
theorem rz_Lok_le {ns np e k e' : Nat} {r : Nat → Nat} (hk : k < 10) (he : e ≤ tl) (h : rz_Lok c tl ns np e k r e') : e' ≤ tl := by
  unfold rz_Lok at h
  have t1 := rz_tt (c := c) he
  have t2 := rz_tt (c := c) t1
  have t3 := rz_tt (c := c) t2
  rcases rz_k10 hk with hk | rfl | rfl | rfl | rfl | rfl | rfl
  · rw [if_pos hk] at h
    rw [h.2.2.2.2]; exact t3
  · have : _ ∧ _ ∧ e' = _ := h
    rw [this.2.2]; exact t2
  · have : _ ∧ e' = _ := h
    rw [this.2]; exact t1
  · have : _ ∧ e' = _ := h
    rw [this.2]; exact t1
  · have : _ ∧ _ ∧ _ ∧ e' = _ := h
    rw [this.2.2.2]; exact t3
  · have : _ ∧ _ ∧ _ ∧ _ ∧ e' = _ := h
    rw [this.2.2.2.2]; exact t2
  · have : e' = e := h
    rw [this]; exact he
theorem s_hasRoom {ns np k : Nat} {post : Int32 → Prop} (hk : k < 10) (hn : ns ≤ 8) (hp : np ≤ 8) (h0 : ((k < 4 ∧ 8 ≤ ns) ∨ (k = 8 ∧ 8 ≤ np)) → post 0) (h1 : ¬ ((k < 4 ∧ 8 ≤ ns) ∨ (k = 8 ∧ 8 ≤ np)) → post 1) : f_X0_hasRoomFor (nI np) (nI ns) (nI k) post := by
  unfold f_X0_hasRoomFor f_X0_hasRoomFor_41
  rw [show (3 : Int32) < nI k ↔ 3 < k from nI_ltI (a := 3) (by omega) (by omega), show nI k = 8 ↔ k = 8 from nI_eqn 8 (by omega) (by omega), show (8 : Int32) ≤ nI np ↔ 8 ≤ np from nI_leI (a := 8) (by omega) (by omega), show (8 : Int32) ≤ nI ns ↔ 8 ≤ ns from nI_leI (a := 8) (by omega) (by omega)]
  exact ⟨fun c1 => ⟨fun c2 => h1 (by omega), fun c2 => ⟨fun c3 => h0 (by omega), fun c3 => h1 (by omega)⟩⟩, fun c1 => ⟨fun c3 => h0 (by omega), fun c3 => h1 (by omega)⟩⟩
theorem rz_u0 {f : Nat → Int32} {a b d : Int32} : upd (upd (upd f 0 a) 1 b) 2 d 0 = a := rfl
theorem rz_u1 {f : Nat → Int32} {a b d : Int32} : upd (upd (upd f 0 a) 1 b) 2 d 1 = b := rfl
theorem rz_u2 {f : Nat → Int32} {a b d : Int32} : upd (upd (upd f 0 a) 1 b) 2 d 2 = d := rfl
def rz_3 (a b d : Nat) (i : Nat) : Nat := if i = 1 then a else if i = 2 then b else d
section RE2
variable {ns np nb so : Nat} {K : Nat → Nat → Nat} {Pa Pb Wd : Nat → Nat} {xs xp xb xo xc : Int32} {xk xw xt xh xf xa xv : Nat → Int32} {nums : Nat → Int32}
theorem s_storeyStands {e0 e k : Nat} {post : Int32 → (Nat → Int32) → Int32 → Int32 → (Nat → Int32) → (Nat → Int32) → (Nat → Int32) → (Nat → Int32) → (Nat → Int32) → (Nat → Int32) → Int32 → Int32 → Prop} (htl : tl ≤ 200) (hb : ∀ j, j < tl → c j < 256 ∧ xby j = nI (c j)) (he : e ≤ tl) (hk : k < 4) (ho : pz_ok ns K np Pa Pb) (hn : ns < 8) (hX : rz_X (ns, K, np, Pa, Pb, nb, so, Wd) xs xp xb xo xc xk xw xt xh xf xa xv)
    (hok : ∀ r e' nums' xk' xw' xt' xh' xf' xa' xs' xc', rz_Lok c tl ns np e k r e' → rz_X (rz_ap k r (ns, K, np, Pa, Pb, nb, so, Wd)) xs' xp xb xo xc' xk' xw' xt' xh' xf' xa' xv → post 1 nums' (nI (rz_s c tl e')) (nI (rz_t c tl e')) xk' xw' xt' xh' xf' xa' xs' xc')
    (hno : ∀ e' nums', rz_Lno c tl ns np e0 e k e' → post 0 nums' (nI (rz_s c tl e')) (nI (rz_t c tl e')) xk xw xt xh xf xa xs xc) : f_X0_storeyStands (nI tl) xby nums (nI (rz_s c tl e)) (nI (rz_t c tl e)) xk xw xt xh xf xa xs xc (nI k) post := by
  have t1 := rz_tt (c := c) he
  have t2 := rz_tt (c := c) t1
  have t3 := rz_tt (c := c) t2
  have e1 := hX.1.1
  refine s_numberStands (q := 0) (lo := 1) htl hb he (by omega) (by omega) (rz_hx_n (h := 99) (by omega)) (fun v1 n1 => ⟨fun c => absurd c (by decide), fun _ => s_numberStands (q := 1) (lo := 0) htl hb t1 (by omega) (by omega) (rz_hx_n (h := 999) (by omega)) (fun v2 n2 => ⟨fun c => absurd c (by decide), fun _ => s_numberStands (q := 2) (lo := 1) htl hb t2 (by omega) (by omega) (rz_hx_n (h := 9) (by omega)) (fun v3 n3 => ⟨fun _ => ⟨vp_in_nI (n := 0) (by omega) (by omega), vp_in_nI (n := 1) (by omega) (by omega), vp_in_nI (n := 2) (by omega) (by omega), ?_⟩, fun c => absurd c (by decide)⟩) (fun n3 => ⟨fun c => absurd rfl c, fun _ => hno _ _ ?_⟩)⟩) (fun n2 => ⟨fun _ => hno _ _ ?_, fun c => absurd rfl c⟩)⟩) (fun n1 => ⟨fun _ => hno _ _ ?_, fun c => absurd rfl c⟩)
  · rw [e1, show (0 : Int32).toNatClampNeg = 0 from rfl, show (1 : Int32).toNatClampNeg = 1 from rfl, show (2 : Int32).toNatClampNeg = 2 from rfl, rz_u0, rz_u1, rz_u2]
    have hL : rz_Lok c tl ns np e k (rz_3 v1 v2 v3) (rz_t c tl (rz_t c tl (rz_t c tl e))) := by
      unfold rz_Lok
      rw [if_pos hk]
      exact ⟨hn, n1, n2, n3, rfl⟩
    unfold f_X1_tellStorey f_X1_tellStorey_91
    rw [nI_clamp (by omega), nI_1]
    have v8 : vp_in (nI ns) 8 := vp_in_nI (by omega) (by omega)
    have ek : nI k = 2 ↔ k = 2 := nI_eqn 2 (by omega) (by omega)
    refine ⟨fun _ => ⟨v8, v8, v8, v8, v8, v8, fun c2 => hok _ _ _ _ _ _ _ _ _ _ _ hL (x_storey (r := rz_3 v1 v2 v3) hk ho hn hX _ ⟨fun z => absurd (ek.mpr z) c2, fun _ => rfl⟩), fun c2 => hok _ _ _ _ _ _ _ _ _ _ _ hL (x_storey (r := rz_3 v1 v2 v3) hk ho hn hX _ ⟨fun z => rfl, fun z => absurd (ek.mp c2) z⟩)⟩, fun c => absurd ((nI_ltI (b := 8) (by omega) (by omega)).mpr hn) c⟩
  · unfold rz_Lno; rw [if_pos hk]; exact Or.inr ⟨hn, Or.inr ⟨v1, n1, Or.inr ⟨v2, n2, n3, rfl⟩⟩⟩
  · unfold rz_Lno; rw [if_pos hk]; exact Or.inr ⟨hn, Or.inr ⟨v1, n1, Or.inl ⟨n2, rfl⟩⟩⟩
  · unfold rz_Lno; rw [if_pos hk]; exact Or.inr ⟨hn, Or.inl ⟨n1, rfl⟩⟩
theorem s_folkStand {e0 e : Nat} {post : Int32 → (Nat → Int32) → Int32 → Int32 → (Nat → Int32) → Prop} (htl : tl ≤ 200) (hb : ∀ j, j < tl → c j < 256 ∧ xby j = nI (c j)) (he : e ≤ tl) (ho : pz_ok ns K np Pa Pb) (hX : rz_X (ns, K, np, Pa, Pb, nb, so, Wd) xs xp xb xo xc xk xw xt xh xf xa xv)
    (hok : ∀ r e' nums' xf', rz_Lok c tl ns np e 4 r e' → rz_X (rz_ap 4 r (ns, K, np, Pa, Pb, nb, so, Wd)) xs xp xb xo xc xk xw xt xh xf' xa xv → post 1 nums' (nI (rz_s c tl e')) (nI (rz_t c tl e')) xf')
    (hno : ∀ e' nums', rz_Lno c tl ns np e0 e 4 e' → post 0 nums' (nI (rz_s c tl e')) (nI (rz_t c tl e')) xf) : f_X0_folkStand xs (nI tl) xby nums (nI (rz_s c tl e)) (nI (rz_t c tl e)) xf post := by
  have t1 := rz_tt (c := c) he
  have hn8 := ho.1
  have e1 : xs = nI ns := hX.1.1
  unfold f_X0_folkStand
  rw [e1]
  refine s_numberStands (q := 0) (lo := 0) htl hb he (by omega) (by omega) (rz_hx_m (n := ns) (by omega)) (fun v1 n1 => ⟨fun c => absurd c (by decide), fun _ => s_numberStands (q := 1) (lo := 0) htl hb t1 (by omega) (by omega) (rz_hx_n (h := 99) (by omega)) (fun v2 n2 => ⟨fun _ => ⟨vp_in_nI (n := 0) (by omega) (by omega), vp_in_nI (n := 1) (by omega) (by omega), ?_⟩, fun c => absurd c (by decide)⟩) (fun n2 => ⟨fun c => absurd rfl c, fun _ => hno _ _ (Or.inr ⟨v1, n1, n2, rfl⟩)⟩)⟩) (fun n1 => ⟨fun _ => hno _ _ (Or.inl ⟨n1, rfl⟩), fun c => absurd rfl c⟩)
  rw [show (0 : Int32).toNatClampNeg = 0 from rfl, show (1 : Int32).toNatClampNeg = 1 from rfl, pk_us, pk_un (by omega), pk_us]
  have hv := n1.2.2.2
  refine s_has_t hn8 hv ⟨fun c => absurd c (by decide), fun _ => ⟨vp_in_nI (by omega) (by omega), ?_⟩⟩
  rw [nI_clamp (by omega)]
  exact hok (rz_3 v1 v2 0) _ _ _ ⟨n1, n2, rfl⟩ (x_folk (r := rz_3 v1 v2 0) hv hX)
theorem s_jacksStand {e0 e : Nat} {post : Int32 → (Nat → Int32) → Int32 → Int32 → Int32 → Prop} (htl : tl ≤ 200) (hb : ∀ j, j < tl → c j < 256 ∧ xby j = nI (c j)) (he : e ≤ tl) (hX : rz_X (ns, K, np, Pa, Pb, nb, so, Wd) xs xp xb xo xc xk xw xt xh xf xa xv)
    (hok : ∀ r e' nums' xb', rz_Lok c tl ns np e 5 r e' → rz_X (rz_ap 5 r (ns, K, np, Pa, Pb, nb, so, Wd)) xs xp xb' xo xc xk xw xt xh xf xa xv → post 1 nums' (nI (rz_s c tl e')) (nI (rz_t c tl e')) xb')
    (hno : ∀ e' nums', rz_Lno c tl ns np e0 e 5 e' → post 0 nums' (nI (rz_s c tl e')) (nI (rz_t c tl e')) xb) : f_X0_jacksStand (nI tl) xby nums (nI (rz_s c tl e)) (nI (rz_t c tl e)) xb post := by
  refine s_numberStands (q := 0) (lo := 0) htl hb he (by omega) (by omega) (rz_hx_n (h := 999) (by omega)) (fun v1 n1 => ⟨fun _ => ⟨vp_in_nI (n := 0) (by omega) (by omega), ?_⟩, fun c => absurd c (by decide)⟩) (fun n1 => ⟨fun c => absurd rfl c, fun _ => hno _ _ ⟨n1, rfl⟩⟩)
  rw [show (0 : Int32).toNatClampNeg = 0 from rfl, pk_us]
  exact hok (rz_3 v1 0 0) _ _ _ ⟨n1, rfl⟩ ⟨⟨hX.1.1, hX.1.2.1, rfl, hX.1.2.2.2⟩, hX.2⟩
theorem s_softStands {e0 e : Nat} {post : Int32 → (Nat → Int32) → Int32 → Int32 → Int32 → Prop} (htl : tl ≤ 200) (hb : ∀ j, j < tl → c j < 256 ∧ xby j = nI (c j)) (he : e ≤ tl) (hX : rz_X (ns, K, np, Pa, Pb, nb, so, Wd) xs xp xb xo xc xk xw xt xh xf xa xv)
    (hok : ∀ r e' nums' xo', rz_Lok c tl ns np e 6 r e' → rz_X (rz_ap 6 r (ns, K, np, Pa, Pb, nb, so, Wd)) xs xp xb xo' xc xk xw xt xh xf xa xv → post 1 nums' (nI (rz_s c tl e')) (nI (rz_t c tl e')) xo')
    (hno : ∀ e' nums', rz_Lno c tl ns np e0 e 6 e' → post 0 nums' (nI (rz_s c tl e')) (nI (rz_t c tl e')) xo) : f_X0_softStands (nI tl) xby nums (nI (rz_s c tl e)) (nI (rz_t c tl e)) xo post := by
  refine s_numberStands (q := 0) (lo := 1) htl hb he (by omega) (by omega) (rz_hx_n (h := 99) (by omega)) (fun v1 n1 => ⟨fun _ => ⟨vp_in_nI (n := 0) (by omega) (by omega), ?_⟩, fun c => absurd c (by decide)⟩) (fun n1 => ⟨fun c => absurd rfl c, fun _ => hno _ _ ⟨n1, rfl⟩⟩)
  rw [show (0 : Int32).toNatClampNeg = 0 from rfl, pk_us]
  exact hok (rz_3 v1 0 0) _ _ _ ⟨n1, rfl⟩ ⟨⟨hX.1.1, hX.1.2.1, hX.1.2.2.1, rfl⟩, hX.2⟩
theorem s_windStands {e0 e : Nat} {post : Int32 → (Nat → Int32) → Int32 → Int32 → (Nat → Int32) → Prop} (htl : tl ≤ 200) (hb : ∀ j, j < tl → c j < 256 ∧ xby j = nI (c j)) (he : e ≤ tl) (hX : rz_X (ns, K, np, Pa, Pb, nb, so, Wd) xs xp xb xo xc xk xw xt xh xf xa xv)
    (hok : ∀ r e' nums' xv', rz_Lok c tl ns np e 7 r e' → rz_X (rz_ap 7 r (ns, K, np, Pa, Pb, nb, so, Wd)) xs xp xb xo xc xk xw xt xh xf xa xv' → post 1 nums' (nI (rz_s c tl e')) (nI (rz_t c tl e')) xv')
    (hno : ∀ e' nums', rz_Lno c tl ns np e0 e 7 e' → post 0 nums' (nI (rz_s c tl e')) (nI (rz_t c tl e')) xv) : f_X0_windStands (nI tl) xby nums (nI (rz_s c tl e)) (nI (rz_t c tl e)) xv post := by
  have t1 := rz_tt (c := c) he
  have t2 := rz_tt (c := c) t1
  refine s_numberStands (q := 0) (lo := 0) htl hb he (by omega) (by omega) (rz_hx_n (h := 39) (by omega)) (fun v1 n1 => ⟨fun c => absurd c (by decide), fun _ => ⟨vp_in_nI (n := 0) (by omega) (by omega), ?_⟩⟩) (fun n1 => ⟨fun _ => hno _ _ (Or.inl ⟨n1, rfl⟩), fun c => absurd rfl c⟩)
  rw [show (0 : Int32).toNatClampNeg = 0 from rfl, show (1 : Int32).toNatClampNeg = 1 from rfl, show (2 : Int32).toNatClampNeg = 2 from rfl, show upd nums 0 (nI v1) 0 = nI v1 from pk_us]
  have hv1 := n1.2.2.2
  refine s_numberStands (q := 1) (lo := v1) htl hb t1 (by omega) (by omega) (rz_hx_n (h := 39) (by omega)) (fun v2 n2 => ⟨fun _ => s_numberStands (q := 2) (lo := 0) htl hb t2 (by omega) (by omega) (rz_hx_n (h := 9) (by omega)) (fun v3 n3 => ⟨fun _ => ⟨vp_in_nI (n := 0) (by omega) (by omega), vp_in_nI (n := 1) (by omega) (by omega), vp_in_nI (n := 2) (by omega) (by omega), ?_⟩, fun c => absurd c (by decide)⟩) (fun n3 => ⟨fun c => absurd rfl c, fun _ => hno _ _ (Or.inr ⟨v1, n1, Or.inr ⟨v2, n2, n3, rfl⟩⟩)⟩), fun c => absurd c (by decide)⟩) (fun n2 => ⟨fun c => absurd rfl c, fun _ => hno _ _ (Or.inr ⟨v1, n1, Or.inl ⟨n2, rfl⟩⟩)⟩)
  rw [rz_u0, rz_u1, rz_u2]
  have hv2 := n2.2.2.2
  have hv3 := n2.2.2.1
  refine ⟨_, s_tellWind (a := 0) hv2 (v2 + 1 - v1) v1 xv (by omega) (fun w' hw => hok (rz_3 v1 v2 v3) _ _ _ ⟨n1, n2, n3, rfl⟩ ⟨hX.1, hX.2.1, fun d hd => ?_⟩)⟩
  rw [hw d]
  show _ = nI (if v1 ≤ d ∧ d ≤ v2 then v3 else Wd d)
  split
  · rfl
  · exact hX.2.2 d hd
theorem s_pairStands {e0 e : Nat} {post : Int32 → (Nat → Int32) → Int32 → Int32 → (Nat → Int32) → Int32 → Prop} (htl : tl ≤ 200) (hb : ∀ j, j < tl → c j < 256 ∧ xby j = nI (c j)) (he : e ≤ tl) (ho : pz_ok ns K np Pa Pb) (hnp : np < 8) (hX : rz_X (ns, K, np, Pa, Pb, nb, so, Wd) xs xp xb xo xc xk xw xt xh xf xa xv)
    (hok : ∀ r e' nums' xa' xp', rz_Lok c tl ns np e 8 r e' → rz_X (rz_ap 8 r (ns, K, np, Pa, Pb, nb, so, Wd)) xs xp' xb xo xc xk xw xt xh xf xa' xv → post 1 nums' (nI (rz_s c tl e')) (nI (rz_t c tl e')) xa' xp')
    (hno : ∀ e' nums', rz_Lno c tl ns np e0 e 8 e' → post 0 nums' (nI (rz_s c tl e')) (nI (rz_t c tl e')) xa xp) : f_X0_pairStands xs (nI tl) xby nums (nI (rz_s c tl e)) (nI (rz_t c tl e)) xa xp post := by
  have t1 := rz_tt (c := c) he
  have hn8 := ho.1
  have e1 : xs = nI ns := hX.1.1
  have e2 : xp = nI np := hX.1.2.1
  unfold f_X0_pairStands
  rw [e1]
  refine s_numberStands (q := 0) (lo := 0) htl hb he (by omega) (by omega) (rz_hx_m (n := ns) (by omega)) (fun v1 n1 => ⟨fun c => absurd c (by decide), fun _ => ?_⟩) (fun n1 => ⟨fun _ => hno _ _ (Or.inr ⟨hnp, Or.inl ⟨n1, rfl⟩⟩), fun c => absurd rfl c⟩)
  have hv1 := n1.2.2.2
  have second : (∀ z : rz_isn c tl (rz_t c tl e), rz_v c tl (rz_t c tl e) ≠ v1) → f_X0_numberStands (nI tl) xby (upd nums 0 (nI v1)) (nI (rz_s c tl (rz_t c tl e))) (nI (rz_t c tl (rz_t c tl e))) 1 0 (nI ns - 1) (fun r6 u7 u8 u9 => ((¬ r6 = 0 → (vp_in 0 3 ∧ (vp_in 1 3 ∧ (f_X1_tellPair (nI ns) xa xp (u7 (0 : Int32).toNatClampNeg) (u7 (1 : Int32).toNatClampNeg) (fun u11 u12 => (post 1 u7 u8 u9 u11 u12)))))) ∧ (r6 = 0 → (post 0 u7 u8 u9 xa xp)))) := by
    intro hne
    refine s_numberStands (q := 1) (lo := 0) htl hb t1 (by omega) (by omega) (rz_hx_m (n := ns) (by omega)) (fun v2 n2 => ⟨fun _ => ⟨vp_in_nI (n := 0) (by omega) (by omega), vp_in_nI (n := 1) (by omega) (by omega), ?_⟩, fun c => absurd c (by decide)⟩) (fun n2 => ⟨fun c => absurd rfl c, fun _ => hno _ _ (Or.inr ⟨hnp, Or.inr ⟨v1, n1, Or.inl n2, rfl⟩⟩)⟩)
    have hv2 := n2.2.2.2
    rw [show (0 : Int32).toNatClampNeg = 0 from rfl, show (1 : Int32).toNatClampNeg = 1 from rfl, pk_us, pk_un (by omega), pk_us]
    refine s_has_t hn8 hv1 ⟨fun c => absurd c (by decide), fun _ => s_has_t hn8 hv2 ⟨fun c => absurd c (by decide), fun _ => ⟨vp_in_nI (by omega) (by omega), vp_in_nI (by omega) (by omega), ?_⟩⟩⟩
    rw [nI_clamp (by omega), e2, nI_1]
    exact hok (rz_3 v1 v2 0) _ _ _ _ ⟨hnp, n1, n2, fun z => hne n2.1 (n2.2.1.trans z), rfl⟩ (x_pair (r := rz_3 v1 v2 0) ho hv1 hv2 hX)
  refine s_numberHere htl hb t1 (fun hi => ⟨vp_in_nI (n := 0) (by omega) (by omega), ?_⟩) (fun hi => ⟨vp_in_nI (n := 0) (by omega) (by omega), ?_⟩)
  · have hv := rz_v_lt t1 hi
    rw [show upd nums 0 (nI v1) (0 : Int32).toNatClampNeg = nI v1 from pk_us, nI_eq (by omega) (by omega)]
    exact ⟨fun ce => hno _ _ (Or.inr ⟨hnp, Or.inr ⟨v1, n1, Or.inr ⟨hi, ce, by omega, hv1⟩, rfl⟩⟩), fun ce => second (fun _ => ce)⟩
  · rw [show upd nums 0 (nI v1) (0 : Int32).toNatClampNeg = nI v1 from pk_us]
    exact ⟨fun ce => absurd ce.symm (nI_nm1 (by omega)), fun _ => second (fun z => absurd z hi)⟩
end RE2
end RE
