section RI
variable {c : Nat → Nat} {tl : Nat} {mt : Nat → Int32}
variable {ta dg nm fa : Int32} {tk : Int64} {rd : Nat → Int32} {po rp rs : Int32} {w : Nat}
variable {post : Int32 → Int32 → Int32 → Int32 → Int64 → Int32 → (Nat → Int32) → Int32 → Int32 → Int32 → Prop}
theorem rz_v60 (h : w < 60) : vp_in (nI w) 60 := vp_in_nI (by omega) (by omega)
theorem s_177_storey {k : Nat} (hk : k < 4) (hw : w + 3 < 60) (H : f_X5_isStoreyLine (nI tl) mt rs ta dg nm tk po fa (upd rd w (nI k)) (nI w) (fun r1 u2 u3 u4 u5 u6 u7 u8 u9 => ((r1 = 0 ∨ r1 = 1) ∧ post r1 u3 u4 u5 u6 u7 u9 u8 rp u2))) : f_X5_isLine_177 (nI tl) mt post (nI w) (nI w) (nI k) ta dg nm tk po rd fa rp rs := by
  unfold f_X5_isLine_177
  rw [nI_clamp (n := w) (by omega), pk_us]
  have v : vp_in (nI w) 60 := rz_v60 (by omega)
  refine ⟨v, v, fun _ => H, fun c0 => ⟨fun _ => H, fun c1 => ⟨fun _ => H, fun c2 => ⟨fun _ => H, fun c3 => ?_⟩⟩⟩⟩
  exfalso
  rcases (show k = 0 ∨ k = 1 ∨ k = 2 ∨ k = 3 by omega) with rfl | rfl | rfl | rfl
  · exact c0 rfl
  · exact c1 rfl
  · exact c2 rfl
  · exact c3 rfl
theorem s_177_site (hw : w + 3 < 60) (H : post 1 ta dg nm tk po (upd rd w 4) fa 0 0) : f_X5_isLine_177 (nI tl) mt post (nI w) (nI w) 4 ta dg nm tk po rd fa rp rs := by
  unfold f_X5_isLine_177
  rw [nI_clamp (n := w) (by omega), pk_us]
  have v : vp_in (nI w) 60 := rz_v60 (by omega)
  exact ⟨v, v, fun z => absurd z (by decide), fun _ => ⟨fun z => absurd z (by decide), fun _ => ⟨fun z => absurd z (by decide), fun _ => ⟨fun z => absurd z (by decide), fun _ => ⟨fun _ => H, fun z => absurd rfl z⟩⟩⟩⟩⟩
theorem s_177_folk (hw : w + 3 < 60) (H : f_X5_isThere rs (nI tl) mt ta dg nm tk po fa (upd rd w 5) (nI (w + 1)) (fun r37 u38 u39 u40 u41 u42 u43 u44 => ((r37 = 0 → (post 0 u38 u39 u40 u41 u42 u44 u43 rp rs)) ∧ (¬ r37 = 0 → (f_X5_isNumber (nI tl) mt u38 u39 u40 u41 u42 u43 u44 (nI (w + 2)) 0 99 (fun r45 u46 u47 u48 u49 u50 u51 u52 => ((r45 = 0 → (post 0 u46 u47 u48 u49 u50 u52 u51 rp rs)) ∧ (¬ r45 = 0 → (post 1 u46 u47 u48 u49 u50 u52 u51 rp rs))))))))) : f_X5_isLine_177 (nI tl) mt post (nI w) (nI w) 5 ta dg nm tk po rd fa rp rs := by
  unfold f_X5_isLine_177
  rw [nI_clamp (n := w) (by omega), pk_us, nI_1 w, ix_p2 w]
  have v : vp_in (nI w) 60 := rz_v60 (by omega)
  exact ⟨v, v, fun z => absurd z (by decide), fun _ => ⟨fun z => absurd z (by decide), fun _ => ⟨fun z => absurd z (by decide), fun _ => ⟨fun z => absurd z (by decide), fun _ => ⟨fun z => absurd z (by decide), fun _ => ⟨fun _ => H, fun z => absurd rfl z⟩⟩⟩⟩⟩⟩
theorem s_177_jacks (hw : w + 3 < 60) (H : f_X5_isNumber (nI tl) mt ta dg nm tk po fa (upd rd w 6) (nI (w + 1)) 0 999 (fun r53 u54 u55 u56 u57 u58 u59 u60 => ((r53 = 0 ∨ r53 = 1) ∧ post r53 u54 u55 u56 u57 u58 u60 u59 rp rs))) : f_X5_isLine_177 (nI tl) mt post (nI w) (nI w) 6 ta dg nm tk po rd fa rp rs := by
  unfold f_X5_isLine_177
  rw [nI_clamp (n := w) (by omega), pk_us, nI_1 w]
  have v : vp_in (nI w) 60 := rz_v60 (by omega)
  exact ⟨v, v, fun z => absurd z (by decide), fun _ => ⟨fun z => absurd z (by decide), fun _ => ⟨fun z => absurd z (by decide), fun _ => ⟨fun z => absurd z (by decide), fun _ => ⟨fun z => absurd z (by decide), fun _ => ⟨fun z => absurd z (by decide), fun _ => ⟨fun _ => H, fun z => absurd rfl z⟩⟩⟩⟩⟩⟩⟩
theorem s_177_soft (hw : w + 3 < 60) (H : f_X5_isNumber (nI tl) mt ta dg nm tk po fa (upd rd w 7) (nI (w + 1)) 1 99 (fun r53 u54 u55 u56 u57 u58 u59 u60 => ((r53 = 0 ∨ r53 = 1) ∧ post r53 u54 u55 u56 u57 u58 u60 u59 rp rs))) : f_X5_isLine_177 (nI tl) mt post (nI w) (nI w) 7 ta dg nm tk po rd fa rp rs := by
  unfold f_X5_isLine_177
  rw [nI_clamp (n := w) (by omega), pk_us, nI_1 w]
  have v : vp_in (nI w) 60 := rz_v60 (by omega)
  exact ⟨v, v, fun z => absurd z (by decide), fun _ => ⟨fun z => absurd z (by decide), fun _ => ⟨fun z => absurd z (by decide), fun _ => ⟨fun z => absurd z (by decide), fun _ => ⟨fun z => absurd z (by decide), fun _ => ⟨fun z => absurd z (by decide), fun _ => ⟨fun z => absurd z (by decide), fun _ => ⟨fun _ => H, fun z => absurd rfl z⟩⟩⟩⟩⟩⟩⟩⟩
theorem s_177_wind (hw : w + 3 < 60) (H : f_X5_isNumber (nI tl) mt ta dg nm tk po fa (upd rd w 8) (nI (w + 1)) 0 39 (fun r69 u70 u71 u72 u73 u74 u75 u76 => ((r69 = 0 → (post 0 u70 u71 u72 u73 u74 u76 u75 rp rs)) ∧ (¬ r69 = 0 → (vp_in (nI (w + 1)) 60 ∧ (f_X5_isNumber (nI tl) mt u70 u71 u72 u73 u74 u75 u76 (nI (w + 2)) (u76 (w + 1)) 39 (fun r77 u78 u79 u80 u81 u82 u83 u84 => ((r77 = 0 → (post 0 u78 u79 u80 u81 u82 u84 u83 rp rs)) ∧ (¬ r77 = 0 → (f_X5_isNumber (nI tl) mt u78 u79 u80 u81 u82 u83 u84 (nI (w + 3)) 0 9 (fun r85 u86 u87 u88 u89 u90 u91 u92 => ((r85 = 0 → (post 0 u86 u87 u88 u89 u90 u92 u91 rp rs)) ∧ (¬ r85 = 0 → (post 1 u86 u87 u88 u89 u90 u92 u91 rp rs)))))))))))))) : f_X5_isLine_177 (nI tl) mt post (nI w) (nI w) 8 ta dg nm tk po rd fa rp rs := by
  unfold f_X5_isLine_177
  rw [nI_clamp (n := w) (by omega), pk_us, nI_1 w, ix_p2 w, ix_p3 w, nI_clamp (n := w + 1) (by omega)]
  have v : vp_in (nI w) 60 := rz_v60 (by omega)
  exact ⟨v, v, fun z => absurd z (by decide), fun _ => ⟨fun z => absurd z (by decide), fun _ => ⟨fun z => absurd z (by decide), fun _ => ⟨fun z => absurd z (by decide), fun _ => ⟨fun z => absurd z (by decide), fun _ => ⟨fun z => absurd z (by decide), fun _ => ⟨fun z => absurd z (by decide), fun _ => ⟨fun z => absurd z (by decide), fun _ => ⟨fun _ => H, fun z => absurd rfl z⟩⟩⟩⟩⟩⟩⟩⟩⟩
theorem s_177_pair (hw : w + 3 < 60) (H : f_X5_isPair rs (nI tl) mt rp ta dg nm tk po fa (upd rd w 9) (nI w) (fun r93 u94 u95 u96 u97 u98 u99 u100 u101 => ((r93 = 0 ∨ r93 = 1) ∧ post r93 u95 u96 u97 u98 u99 u101 u100 u94 rs))) : f_X5_isLine_177 (nI tl) mt post (nI w) (nI w) 9 ta dg nm tk po rd fa rp rs := by
  unfold f_X5_isLine_177
  rw [nI_clamp (n := w) (by omega), pk_us]
  have v : vp_in (nI w) 60 := rz_v60 (by omega)
  exact ⟨v, v, fun z => absurd z (by decide), fun _ => ⟨fun z => absurd z (by decide), fun _ => ⟨fun z => absurd z (by decide), fun _ => ⟨fun z => absurd z (by decide), fun _ => ⟨fun z => absurd z (by decide), fun _ => ⟨fun z => absurd z (by decide), fun _ => ⟨fun z => absurd z (by decide), fun _ => ⟨fun z => absurd z (by decide), fun _ => ⟨fun z => absurd z (by decide), fun _ => ⟨fun _ => H, fun z => absurd rfl z⟩⟩⟩⟩⟩⟩⟩⟩⟩⟩
theorem s_177_none (hw : w + 3 < 60) (H : post 0 ta dg nm tk po (upd rd w (-1)) ta rp rs) : f_X5_isLine_177 (nI tl) mt post (nI w) (nI w) (-1) ta dg nm tk po rd fa rp rs := by
  unfold f_X5_isLine_177
  rw [nI_clamp (n := w) (by omega), pk_us]
  have v : vp_in (nI w) 60 := rz_v60 (by omega)
  exact ⟨v, v, fun z => absurd z (by decide), fun _ => ⟨fun z => absurd z (by decide), fun _ => ⟨fun z => absurd z (by decide), fun _ => ⟨fun z => absurd z (by decide), fun _ => ⟨fun z => absurd z (by decide), fun _ => ⟨fun z => absurd z (by decide), fun _ => ⟨fun z => absurd z (by decide), fun _ => ⟨fun z => absurd z (by decide), fun _ => ⟨fun z => absurd z (by decide), fun _ => ⟨fun z => absurd z (by decide), fun _ => ⟨Or.inl rfl, H⟩⟩⟩⟩⟩⟩⟩⟩⟩⟩⟩
/-! a line's cells -/
theorem rz_ln0 {k : Nat} {r : Nat → Nat} (h : rz_ar k = 0) : rz_ln (upd rd w (nI (rz_mk k))) w k r :=
  ⟨pk_us, fun z => absurd z (by omega), fun z => absurd z (by omega), fun z => absurd z (by omega)⟩
theorem rz_ln1 {k : Nat} {r : Nat → Nat} (h : rz_ar k = 1) : rz_ln (upd (upd rd w (nI (rz_mk k))) (w + 1) (nI (r 1))) w k r :=
  ⟨by rw [pk_un (by omega), pk_us], fun _ => pk_us, fun z => absurd z (by omega), fun z => absurd z (by omega)⟩
theorem rz_ln2 {k : Nat} {r : Nat → Nat} (h : rz_ar k = 2) : rz_ln (upd (upd (upd rd w (nI (rz_mk k))) (w + 1) (nI (r 1))) (w + 2) (nI (r 2))) w k r :=
  ⟨by rw [pk_un (by omega), pk_un (by omega), pk_us], fun _ => by rw [pk_un (by omega), pk_us], fun _ => pk_us, fun z => absurd z (by omega)⟩
theorem rz_ln3 {k : Nat} {r : Nat → Nat} : rz_ln (upd (upd (upd (upd rd w (nI (rz_mk k))) (w + 1) (nI (r 1))) (w + 2) (nI (r 2))) (w + 3) (nI (r 3))) w k r :=
  ⟨by rw [pk_un (by omega), pk_un (by omega), pk_un (by omega), pk_us], fun _ => by rw [pk_un (by omega), pk_un (by omega), pk_us], fun _ => by rw [pk_un (by omega), pk_us], fun _ => pk_us⟩
theorem rz_fr0 {a : Int32} : ∀ j, j < w → upd rd w a j = rd j := fun j hj => pk_un (by omega)
theorem rz_fr1 {a b : Int32} : ∀ j, j < w → upd (upd rd w a) (w + 1) b j = rd j := fun j hj => by rw [pk_un (by omega), pk_un (by omega)]
theorem rz_fr2 {a b d : Int32} : ∀ j, j < w → upd (upd (upd rd w a) (w + 1) b) (w + 2) d j = rd j := fun j hj => by rw [pk_un (by omega), pk_un (by omega), pk_un (by omega)]
theorem rz_fr3 {a b d g : Int32} : ∀ j, j < w → upd (upd (upd (upd rd w a) (w + 1) b) (w + 2) d) (w + 3) g j = rd j := fun j hj => by rw [pk_un (by omega), pk_un (by omega), pk_un (by omega), pk_un (by omega)]
theorem rz_ln_fr {rd2 : Nat → Int32} {k : Nat} {r : Nat → Nat} (h : ∀ j, j < w + 5 → rd2 j = rd j) (hl : rz_ln rd w k r) : rz_ln rd2 w k r :=
  ⟨by rw [h _ (by omega)]; exact hl.1, fun z => by rw [h _ (by omega)]; exact hl.2.1 z, fun z => by rw [h _ (by omega)]; exact hl.2.2.1 z, fun z => by rw [h _ (by omega)]; exact hl.2.2.2 z⟩
/-- a line that stands, in the model -/
theorem s_mLine_ok {ns np e k x : Nat} {r : Nat → Nat} (htl : tl ≤ 200) (hb : ∀ j, j < tl → c j < 256 ∧ mt j = nI (c j)) (he : e ≤ tl) (hk : k < 10) (hn : ns ≤ 8) (hp8 : np ≤ 8) (hw : w + 3 < 60) (hW : rz_W c tl e k) (hL : rz_Lok c tl ns np (rz_t c tl e) k r x)
    (hp : ∀ ta dg nm tk rd', rz_ln rd' w k r → (∀ j, j < w → rd' j = rd j) → post 1 ta dg nm tk (nI x) rd' fa (nI (rz_np2 k np)) (nI (rz_ns2 k ns))) : f_X5_isLine (nI tl) mt ta dg nm tk (nI e) rd fa (nI np) (nI ns) (nI w) post := by
  have t1 := rz_tt (c := c) he
  have t2 := rz_tt (c := c) t1
  have t3 := rz_tt (c := c) t2
  refine s_isLine_k htl hb he hk hW (fun dg nm tk => ?_)
  unfold rz_Lok at hL
  rcases rz_k10 hk with hk4 | rfl | rfl | rfl | rfl | rfl | rfl
  · rw [if_pos hk4] at hL
    obtain ⟨h8, n1, n2, n3, rfl⟩ := hL
    have e0 : rz_mk k = k := if_pos hk4
    have e1 : rz_ns2 k ns = ns + 1 := if_pos hk4
    have e2 : rz_np2 k np = np := by unfold rz_np2; rw [if_neg (by omega), if_neg (by omega)]
    rw [e1, e2] at hp
    rw [e0]
    refine s_177_storey hk4 hw ?_
    unfold f_X5_isStoreyLine
    rw [nI_1 w, ix_p2 w, ix_p3 w, nI_1 ns]
    refine ⟨fun _ => s_isNum_t (lo := 1) htl hb t1 (by omega) (by omega) (rz_hx_n (h := 99) (by omega)) n1 (fun _ _ _ => ⟨fun z => absurd z (by decide), fun _ => s_isNum_t (lo := 0) htl hb t2 (by omega) (by omega) (rz_hx_n (h := 999) (by omega)) n2 (fun _ _ _ => ⟨fun z => absurd z (by decide), fun _ => s_isNum_t (lo := 1) htl hb t3 (by omega) (by omega) (rz_hx_n (h := 9) (by omega)) n3 (fun _ _ _ => ⟨fun z => absurd z (by decide), fun _ => ⟨Or.inr rfl, hp _ _ _ _ _ ?_ rz_fr3⟩⟩)⟩)⟩), fun z => absurd ((nI_eqn 8 (by omega) (by omega)).mp z) (by omega)⟩
    have := rz_ln3 (rd := rd) (w := w) (k := k) (r := r)
    rw [e0] at this
    exact this
  · obtain ⟨n1, n2, rfl⟩ := (show rz_N c tl (rz_t c tl e) 0 ns (r 1) ∧ rz_N c tl (rz_t c tl (rz_t c tl e)) 0 100 (r 2) ∧ x = rz_t c tl (rz_t c tl (rz_t c tl e)) from hL)
    exact s_177_folk hw (s_isThere_t htl hb t1 (by omega) hn n1 (fun _ _ _ => ⟨fun z => absurd z (by decide), fun _ => s_isNum_t (lo := 0) htl hb t2 (by omega) (by omega) (rz_hx_n (h := 99) (by omega)) n2 (fun _ _ _ => ⟨fun z => absurd z (by decide), fun _ => hp _ _ _ _ _ (rz_ln2 (k := 4) rfl) rz_fr2⟩)⟩))
  · obtain ⟨n1, rfl⟩ := (show rz_N c tl (rz_t c tl e) 0 1000 (r 1) ∧ x = rz_t c tl (rz_t c tl e) from hL)
    exact s_177_jacks hw (s_isNum_t (lo := 0) htl hb t1 (by omega) (by omega) (rz_hx_n (h := 999) (by omega)) n1 (fun _ _ _ => ⟨Or.inr rfl, hp _ _ _ _ _ (rz_ln1 (k := 5) rfl) rz_fr1⟩))
  · obtain ⟨n1, rfl⟩ := (show rz_N c tl (rz_t c tl e) 1 100 (r 1) ∧ x = rz_t c tl (rz_t c tl e) from hL)
    exact s_177_soft hw (s_isNum_t (lo := 1) htl hb t1 (by omega) (by omega) (rz_hx_n (h := 99) (by omega)) n1 (fun _ _ _ => ⟨Or.inr rfl, hp _ _ _ _ _ (rz_ln1 (k := 6) rfl) rz_fr1⟩))
  · obtain ⟨n1, n2, n3, rfl⟩ := (show rz_N c tl (rz_t c tl e) 0 40 (r 1) ∧ rz_N c tl (rz_t c tl (rz_t c tl e)) (r 1) 40 (r 2) ∧ rz_N c tl (rz_t c tl (rz_t c tl (rz_t c tl e))) 0 10 (r 3) ∧ x = rz_t c tl (rz_t c tl (rz_t c tl (rz_t c tl e))) from hL)
    have h1 := n1.2.2.2
    refine s_177_wind hw (s_isNum_t (lo := 0) htl hb t1 (by omega) (by omega) (rz_hx_n (h := 39) (by omega)) n1 (fun _ _ _ => ⟨fun z => absurd z (by decide), fun _ => ⟨rz_v60 (by omega), ?_⟩⟩))
    rw [pk_us]
    exact s_isNum_t (lo := r 1) htl hb t2 (by omega) (by omega) (rz_hx_n (h := 39) (by omega)) n2 (fun _ _ _ => ⟨fun z => absurd z (by decide), fun _ => s_isNum_t (lo := 0) htl hb t3 (by omega) (by omega) (rz_hx_n (h := 9) (by omega)) n3 (fun _ _ _ => ⟨fun z => absurd z (by decide), fun _ => hp _ _ _ _ _ (rz_ln3 (k := 7)) rz_fr3⟩)⟩)
  · obtain ⟨h8, n1, n2, hne, rfl⟩ := (show np < 8 ∧ rz_N c tl (rz_t c tl e) 0 ns (r 1) ∧ rz_N c tl (rz_t c tl (rz_t c tl e)) 0 ns (r 2) ∧ r 2 ≠ r 1 ∧ x = rz_t c tl (rz_t c tl (rz_t c tl e)) from hL)
    have h1 := n1.2.2.2
    have h2 := n2.2.2.2
    refine s_177_pair hw ?_
    unfold f_X5_isPair
    rw [nI_1 w, ix_p2 w, nI_1 np, nI_clamp (n := w + 1) (by omega), nI_clamp (n := w + 2) (by omega)]
    refine ⟨fun _ => s_isThere_t htl hb t1 (by omega) hn n1 (fun _ _ _ => ⟨fun z => absurd z (by decide), fun _ => s_isThere_t htl hb t2 (by omega) hn n2 (fun _ _ _ => ⟨fun _ => ⟨rz_v60 (by omega), rz_v60 (by omega), fun _ => ⟨Or.inr rfl, hp _ _ _ _ _ (rz_ln2 (k := 8) rfl) rz_fr2⟩, fun z => ?_⟩, fun z => absurd z (by decide)⟩)⟩), fun z => absurd ((nI_eqn 8 (by omega) (by omega)).mp z) (by omega)⟩
    rw [pk_us, pk_un (by omega), pk_us, nI_eq (by omega) (by omega)] at z
    exact absurd z.symm hne
  · have hx : x = rz_t c tl e := hL
    subst hx
    exact s_177_site hw (hp _ _ _ _ _ (rz_ln0 (k := 9) rfl) rz_fr0)
/-- a line that does not -/
theorem s_mLine_no {ns np e e' : Nat} (htl : tl ≤ 200) (hb : ∀ j, j < tl → c j < 256 ∧ mt j = nI (c j)) (he : e ≤ tl) (hn : ns ≤ 8) (hp8 : np ≤ 8) (hw : w + 3 < 60) (h : rz_no c tl ns np e e')
    (hp : ∀ ta dg nm tk po rd' rp' rs', post 0 ta dg nm tk po rd' (nI (rz_s c tl e')) rp' rs') : f_X5_isLine (nI tl) mt ta dg nm tk (nI e) rd fa (nI np) (nI ns) (nI w) post := by
  have t1 := rz_tt (c := c) he
  have t2 := rz_tt (c := c) t1
  have t3 := rz_tt (c := c) t2
  rcases h with ⟨hW, rfl⟩ | ⟨k, hk, hW, hL⟩
  · exact s_isLine_0 htl hb he hW (fun dg nm tk => s_177_none hw (hp _ _ _ _ _ _ _ _))
  refine s_isLine_k htl hb he hk hW (fun dg nm tk => ?_)
  unfold rz_Lno at hL
  rcases rz_k10 hk with hk4 | rfl | rfl | rfl | rfl | rfl | rfl
  · rw [if_pos hk4] at hL
    have e0 : rz_mk k = k := if_pos hk4
    rw [e0]
    refine s_177_storey hk4 hw ?_
    unfold f_X5_isStoreyLine
    rw [nI_1 w, ix_p2 w, ix_p3 w, nI_1 ns]
    rcases hL with ⟨h8, rfl⟩ | ⟨h8, hL⟩
    · exact ⟨fun z => absurd (by rw [show ns = 8 by omega]; rfl) z, fun _ => ⟨Or.inl rfl, Or.inl rfl, hp _ _ _ _ _ _ _ _⟩⟩
    · refine ⟨fun _ => ?_, fun z => absurd ((nI_eqn 8 (by omega) (by omega)).mp z) (by omega)⟩
      rcases hL with ⟨n1, rfl⟩ | ⟨v1, n1, hL⟩
      · exact s_isNum_f (lo := 1) htl hb t1 (by omega) (by omega) (rz_hx_n (h := 99) (by omega)) n1 (fun _ _ _ => ⟨fun _ => ⟨Or.inl rfl, hp _ _ _ _ _ _ _ _⟩, fun z => absurd rfl z⟩)
      · refine s_isNum_t (lo := 1) htl hb t1 (by omega) (by omega) (rz_hx_n (h := 99) (by omega)) n1 (fun _ _ _ => ⟨fun z => absurd z (by decide), fun _ => ?_⟩)
        rcases hL with ⟨n2, rfl⟩ | ⟨v2, n2, n3, rfl⟩
        · exact s_isNum_f (lo := 0) htl hb t2 (by omega) (by omega) (rz_hx_n (h := 999) (by omega)) n2 (fun _ _ _ => ⟨fun _ => ⟨Or.inl rfl, hp _ _ _ _ _ _ _ _⟩, fun z => absurd rfl z⟩)
        · exact s_isNum_t (lo := 0) htl hb t2 (by omega) (by omega) (rz_hx_n (h := 999) (by omega)) n2 (fun _ _ _ => ⟨fun z => absurd z (by decide), fun _ => s_isNum_f (lo := 1) htl hb t3 (by omega) (by omega) (rz_hx_n (h := 9) (by omega)) n3 (fun _ _ _ => ⟨fun _ => ⟨Or.inl rfl, hp _ _ _ _ _ _ _ _⟩, fun z => absurd rfl z⟩)⟩)
  · rcases (show (rz_nN c tl (rz_t c tl e) 0 ns ∧ e' = rz_t c tl e) ∨ (∃ v, rz_N c tl (rz_t c tl e) 0 ns v ∧ rz_nN c tl (rz_t c tl (rz_t c tl e)) 0 100 ∧ e' = rz_t c tl (rz_t c tl e)) from hL) with ⟨n1, rfl⟩ | ⟨v, n1, n2, rfl⟩
    · exact s_177_folk hw (s_isThere_f htl hb t1 (by omega) hn n1 (fun _ _ _ => ⟨fun _ => hp _ _ _ _ _ _ _ _, fun z => absurd rfl z⟩))
    · exact s_177_folk hw (s_isThere_t htl hb t1 (by omega) hn n1 (fun _ _ _ => ⟨fun z => absurd z (by decide), fun _ => s_isNum_f (lo := 0) htl hb t2 (by omega) (by omega) (rz_hx_n (h := 99) (by omega)) n2 (fun _ _ _ => ⟨fun _ => hp _ _ _ _ _ _ _ _, fun z => absurd rfl z⟩)⟩))
  · obtain ⟨n1, rfl⟩ := (show rz_nN c tl (rz_t c tl e) 0 1000 ∧ e' = rz_t c tl e from hL)
    exact s_177_jacks hw (s_isNum_f (lo := 0) htl hb t1 (by omega) (by omega) (rz_hx_n (h := 999) (by omega)) n1 (fun _ _ _ => ⟨Or.inl rfl, hp _ _ _ _ _ _ _ _⟩))
  · obtain ⟨n1, rfl⟩ := (show rz_nN c tl (rz_t c tl e) 1 100 ∧ e' = rz_t c tl e from hL)
    exact s_177_soft hw (s_isNum_f (lo := 1) htl hb t1 (by omega) (by omega) (rz_hx_n (h := 99) (by omega)) n1 (fun _ _ _ => ⟨Or.inl rfl, hp _ _ _ _ _ _ _ _⟩))
  · rcases (show (rz_nN c tl (rz_t c tl e) 0 40 ∧ e' = rz_t c tl e) ∨ (∃ v, rz_N c tl (rz_t c tl e) 0 40 v ∧ ((rz_nN c tl (rz_t c tl (rz_t c tl e)) v 40 ∧ e' = rz_t c tl (rz_t c tl e)) ∨ (∃ v2, rz_N c tl (rz_t c tl (rz_t c tl e)) v 40 v2 ∧ rz_nN c tl (rz_t c tl (rz_t c tl (rz_t c tl e))) 0 10 ∧ e' = rz_t c tl (rz_t c tl (rz_t c tl e))))) from hL) with ⟨n1, rfl⟩ | ⟨v, n1, hL⟩
    · exact s_177_wind hw (s_isNum_f (lo := 0) htl hb t1 (by omega) (by omega) (rz_hx_n (h := 39) (by omega)) n1 (fun _ _ _ => ⟨fun _ => hp _ _ _ _ _ _ _ _, fun z => absurd rfl z⟩))
    · have h1 := n1.2.2.2
      refine s_177_wind hw (s_isNum_t (lo := 0) htl hb t1 (by omega) (by omega) (rz_hx_n (h := 39) (by omega)) n1 (fun _ _ _ => ⟨fun z => absurd z (by decide), fun _ => ⟨rz_v60 (by omega), ?_⟩⟩))
      rw [pk_us]
      rcases hL with ⟨n2, rfl⟩ | ⟨v2, n2, n3, rfl⟩
      · exact s_isNum_f (lo := v) htl hb t2 (by omega) (by omega) (rz_hx_n (h := 39) (by omega)) n2 (fun _ _ _ => ⟨fun _ => hp _ _ _ _ _ _ _ _, fun z => absurd rfl z⟩)
      · exact s_isNum_t (lo := v) htl hb t2 (by omega) (by omega) (rz_hx_n (h := 39) (by omega)) n2 (fun _ _ _ => ⟨fun z => absurd z (by decide), fun _ => s_isNum_f (lo := 0) htl hb t3 (by omega) (by omega) (rz_hx_n (h := 9) (by omega)) n3 (fun _ _ _ => ⟨fun _ => hp _ _ _ _ _ _ _ _, fun z => absurd rfl z⟩)⟩)
  · refine s_177_pair hw ?_
    unfold f_X5_isPair
    rw [nI_1 w, ix_p2 w, nI_1 np, nI_clamp (n := w + 1) (by omega), nI_clamp (n := w + 2) (by omega)]
    rcases (show (8 ≤ np ∧ e' = e) ∨ (np < 8 ∧ ((rz_nN c tl (rz_t c tl e) 0 ns ∧ e' = rz_t c tl e) ∨ (∃ v, rz_N c tl (rz_t c tl e) 0 ns v ∧ ((rz_nN c tl (rz_t c tl (rz_t c tl e)) 0 ns ∨ rz_N c tl (rz_t c tl (rz_t c tl e)) 0 ns v) ∧ e' = rz_t c tl (rz_t c tl e))))) from hL) with ⟨h8, rfl⟩ | ⟨h8, hL⟩
    · exact ⟨fun z => absurd (by rw [show np = 8 by omega]; rfl) z, fun _ => ⟨Or.inl rfl, Or.inl rfl, hp _ _ _ _ _ _ _ _⟩⟩
    · refine ⟨fun _ => ?_, fun z => absurd ((nI_eqn 8 (by omega) (by omega)).mp z) (by omega)⟩
      rcases hL with ⟨n1, rfl⟩ | ⟨v, n1, n2 | n2, rfl⟩
      · exact s_isThere_f htl hb t1 (by omega) hn n1 (fun _ _ _ => ⟨fun _ => ⟨Or.inl rfl, hp _ _ _ _ _ _ _ _⟩, fun z => absurd rfl z⟩)
      · exact s_isThere_t htl hb t1 (by omega) hn n1 (fun _ _ _ => ⟨fun z => absurd z (by decide), fun _ => s_isThere_f htl hb t2 (by omega) hn n2 (fun _ _ _ => ⟨fun z => absurd rfl z, fun _ => ⟨Or.inl rfl, hp _ _ _ _ _ _ _ _⟩⟩)⟩)
      · refine s_isThere_t htl hb t1 (by omega) hn n1 (fun _ _ _ => ⟨fun z => absurd z (by decide), fun _ => s_isThere_t htl hb t2 (by omega) hn n2 (fun _ _ _ => ⟨fun _ => ⟨rz_v60 (by omega), rz_v60 (by omega), fun z => ?_, fun _ => ⟨fun _ => ⟨Or.inl rfl, hp _ _ _ _ _ _ _ _⟩, fun z => absurd rfl z⟩⟩, fun z => absurd z (by decide)⟩)⟩)
        rw [pk_us, pk_un (by omega), pk_us] at z
        exact absurd rfl z
  · exact hL.elim
end RI
