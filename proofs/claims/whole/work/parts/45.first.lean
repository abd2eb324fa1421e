def rz_no (c : Nat → Nat) (tl ns np e e' : Nat) : Prop := ((∀ k, k < 10 → ¬ rz_W c tl e k) ∧ e' = e) ∨ ∃ k, k < 10 ∧ rz_W c tl e k ∧ rz_Lno c tl ns np e (rz_t c tl e) k e'
/-- how a text is read: lines one behind the other, to its end or to its first fault -/
def rz_T (c : Nat → Nat) (tl : Nat) : Nat → rz_D → Nat → Nat → Int32 → Nat → rz_D → List (Nat × (Nat → Nat)) → Prop
  | 0, _, _, _, _, _, _, _ => False
  | z + 1, D, e, m, f, mf, Df, l =>
    (∃ e', rz_no c tl D.1 D.2.2.1 e e' ∧ f = nI (rz_s c tl e')) ∨
    (∃ k r x l', k < 10 ∧ rz_W c tl e k ∧ rz_Lok c tl D.1 D.2.2.1 (rz_t c tl e) k r x ∧ l = (k, r) :: l' ∧
      ((rz_s c tl x = tl ∧ f = -1 ∧ mf = m + 1 ∧ Df = rz_ap k r D ∧ l' = []) ∨
       (rz_s c tl x ≠ tl ∧ (m + 1 = 12 ∨ ¬ rz_semi c tl x) ∧ f = nI (rz_s c tl x)) ∨
       (rz_semi c tl x ∧ m + 1 < 12 ∧ rz_T c tl z (rz_ap k r D) (rz_t c tl x) (m + 1) f mf Df l')))
section RF
variable {c : Nat → Nat} {tl : Nat} {xby mt : Nat → Int32}
variable {xs xp xb xo xc : Int32} {xk xw xt xh xf xa xv : Nat → Int32} {nums : Nat → Int32}
theorem rz_Lno_le {ns np e0 e k e' : Nat} (hk : k < 10) (h0 : e0 ≤ tl) (he : e ≤ tl) (h : rz_Lno c tl ns np e0 e k e') : e' ≤ tl := by
  have t1 := rz_tt (c := c) he
  have t2 := rz_tt (c := c) t1
  unfold rz_Lno at h
  rcases rz_k10 hk with hk | rfl | rfl | rfl | rfl | rfl | rfl
  · rw [if_pos hk] at h
    rcases h with ⟨_, h⟩ | ⟨_, ⟨_, h⟩ | ⟨_, _, ⟨_, h⟩ | ⟨_, _, _, h⟩⟩⟩ <;> omega
  · have h : (_ ∧ e' = _) ∨ (∃ v, _ ∧ _ ∧ e' = _) := h
    rcases h with ⟨_, h⟩ | ⟨_, _, _, h⟩ <;> omega
  · have h : _ ∧ e' = _ := h
    omega
  · have h : _ ∧ e' = _ := h
    omega
  · have h : (_ ∧ e' = _) ∨ (∃ v, rz_N c tl e 0 40 v ∧ ((rz_nN c tl (rz_t c tl e) v 40 ∧ e' = rz_t c tl e) ∨ (∃ v2, rz_N c tl (rz_t c tl e) v 40 v2 ∧ rz_nN c tl (rz_t c tl (rz_t c tl e)) 0 10 ∧ e' = rz_t c tl (rz_t c tl e)))) := h
    rcases h with ⟨_, h⟩ | ⟨_, _, ⟨_, h⟩ | ⟨_, _, _, h⟩⟩ <;> omega
  · have h : (8 ≤ np ∧ e' = e0) ∨ (np < 8 ∧ ((rz_nN c tl e 0 ns ∧ e' = e) ∨ (∃ v, rz_N c tl e 0 ns v ∧ ((rz_nN c tl (rz_t c tl e) 0 ns ∨ rz_N c tl (rz_t c tl e) 0 ns v) ∧ e' = rz_t c tl e)))) := h
    rcases h with ⟨_, h⟩ | ⟨_, ⟨_, h⟩ | ⟨_, _, _, h⟩⟩ <;> omega
  · exact h.elim
theorem rz_no_le {ns np e e' : Nat} (he : e ≤ tl) (h : rz_no c tl ns np e e') : e' ≤ tl := by
  rcases h with ⟨_, h⟩ | ⟨k, hk, _, h⟩
  · omega
  · exact rz_Lno_le hk he (rz_tt he) h
theorem s_lineStands {ns np nb so : Nat} {K : Nat → Nat → Nat} {Pa Pb Wd : Nat → Nat} {e : Nat} {post : Int32 → Int32 → Int32 → (Nat → Int32) → (Nat → Int32) → (Nat → Int32) → (Nat → Int32) → (Nat → Int32) → (Nat → Int32) → (Nat → Int32) → Int32 → Int32 → Int32 → Int32 → Int32 → (Nat → Int32) → Prop} (htl : tl ≤ 200) (hb : ∀ j, j < tl → c j < 256 ∧ xby j = nI (c j)) (he : e ≤ tl) (hD : rz_ok (ns, K, np, Pa, Pb, nb, so, Wd)) (hX : rz_X (ns, K, np, Pa, Pb, nb, so, Wd) xs xp xb xo xc xk xw xt xh xf xa xv)
    (hok : ∀ k r e' nums' xs' xp' xb' xo' xc' xk' xw' xt' xh' xf' xa' xv', k < 10 → rz_W c tl e k → rz_Lok c tl ns np (rz_t c tl e) k r e' → rz_X (rz_ap k r (ns, K, np, Pa, Pb, nb, so, Wd)) xs' xp' xb' xo' xc' xk' xw' xt' xh' xf' xa' xv' → post 1 (nI (rz_s c tl e')) (nI (rz_t c tl e')) nums' xk' xw' xt' xh' xf' xa' xs' xc' xp' xb' xo' xv')
    (hno : ∀ e' nums' xs' xp' xb' xo' xc' xk' xw' xt' xh' xf' xa' xv', rz_no c tl ns np e e' → post 0 (nI (rz_s c tl e')) (nI (rz_t c tl e')) nums' xk' xw' xt' xh' xf' xa' xs' xc' xp' xb' xo' xv') : f_X0_lineStands (nI tl) xby (nI (rz_s c tl e)) (nI (rz_t c tl e)) nums xk xw xt xh xf xa xs xc xp xb xo xv post := by
  have ho := hD.1
  have hn8 := ho.1
  have hp8 := ho.2.1
  have t1 := rz_tt (c := c) he
  obtain ⟨e1, e2, e3, e4⟩ := hX.1
  refine s_wordHere htl hb he (fun k hk hW => ⟨fun c => absurd c (nI_nm1 (by omega)), fun _ => ?_⟩) (fun hW => ⟨fun _ => hno _ _ _ _ _ _ _ _ _ _ _ _ _ _ (Or.inl ⟨hW, rfl⟩), fun c => absurd rfl c⟩)
  have room : ∀ {P : Int32 → Prop}, (((k < 4 ∧ 8 ≤ ns) ∨ (k = 8 ∧ 8 ≤ np)) → P 0) → (¬ ((k < 4 ∧ 8 ≤ ns) ∨ (k = 8 ∧ 8 ≤ np)) → P 1) → f_X0_hasRoomFor xp xs (nI k) P := fun a b => by rw [e1, e2]; exact s_hasRoom hk hn8 hp8 a b
  refine room (fun hr => ⟨fun c => absurd rfl c, fun _ => hno e _ _ _ _ _ _ _ _ _ _ _ _ _ (Or.inr ⟨k, hk, hW, ?_⟩)⟩) (fun hr => ⟨fun _ => s_step htl hb t1 ?_, fun c => absurd c (by decide)⟩)
  · rcases hr with ⟨h1, h2⟩ | ⟨h1, h2⟩
    · unfold rz_Lno; rw [if_pos h1]; exact Or.inl ⟨h2, rfl⟩
    · subst h1; exact Or.inl ⟨h2, rfl⟩
  · rcases rz_k10 hk with hk4 | rfl | rfl | rfl | rfl | rfl | rfl
    · have n4 : ¬ nI k = 4 := fun z => by have := (nI_eqn 4 (by omega) (by omega)).mp z; omega
      have n5 : ¬ nI k = 5 := fun z => by have := (nI_eqn 5 (by omega) (by omega)).mp z; omega
      have n6 : ¬ nI k = 6 := fun z => by have := (nI_eqn 6 (by omega) (by omega)).mp z; omega
      have n7 : ¬ nI k = 7 := fun z => by have := (nI_eqn 7 (by omega) (by omega)).mp z; omega
      have n8 : ¬ nI k = 8 := fun z => by have := (nI_eqn 8 (by omega) (by omega)).mp z; omega
      have n9 : ¬ nI k = 9 := fun z => by have := (nI_eqn 9 (by omega) (by omega)).mp z; omega
      refine ⟨fun c => absurd c n4, fun _ => ⟨fun c => absurd c n5, fun _ => ⟨fun c => absurd c n6, fun _ => ⟨fun c => absurd c n7, fun _ => ⟨fun c => absurd c n8, fun _ => ⟨fun c => absurd c n9, fun _ => ?_⟩⟩⟩⟩⟩⟩
      exact s_storeyStands (e0 := e) htl hb t1 hk4 ho (by omega) hX (fun r e' nums' xk' xw' xt' xh' xf' xa' xs' xc' hL hx => ⟨Or.inr rfl, hok k r e' _ _ _ _ _ _ _ _ _ _ _ _ _ hk hW hL hx⟩) (fun e' nums' hL => ⟨Or.inl rfl, hno _ _ _ _ _ _ _ _ _ _ _ _ _ _ (Or.inr ⟨k, hk, hW, hL⟩)⟩)
    · refine ⟨fun _ => ?_, fun c => absurd (by decide) c⟩
      exact s_folkStand (e0 := e) htl hb t1 ho hX (fun r e' nums' xf' hL hx => ⟨Or.inr rfl, hok 4 r e' _ _ _ _ _ _ _ _ _ _ _ _ _ hk hW hL hx⟩) (fun e' nums' hL => ⟨Or.inl rfl, hno _ _ _ _ _ _ _ _ _ _ _ _ _ _ (Or.inr ⟨4, hk, hW, hL⟩)⟩)
    · refine ⟨fun c => absurd c (by decide), fun _ => ⟨fun _ => ?_, fun c => absurd (by decide) c⟩⟩
      exact s_jacksStand (e0 := e) htl hb t1 hX (fun r e' nums' xf' hL hx => ⟨Or.inr rfl, hok 5 r e' _ _ _ _ _ _ _ _ _ _ _ _ _ hk hW hL hx⟩) (fun e' nums' hL => ⟨Or.inl rfl, hno _ _ _ _ _ _ _ _ _ _ _ _ _ _ (Or.inr ⟨5, hk, hW, hL⟩)⟩)
    · refine ⟨fun c => absurd c (by decide), fun _ => ⟨fun c => absurd c (by decide), fun _ => ⟨fun _ => ?_, fun c => absurd (by decide) c⟩⟩⟩
      exact s_softStands (e0 := e) htl hb t1 hX (fun r e' nums' xf' hL hx => ⟨Or.inr rfl, hok 6 r e' _ _ _ _ _ _ _ _ _ _ _ _ _ hk hW hL hx⟩) (fun e' nums' hL => ⟨Or.inl rfl, hno _ _ _ _ _ _ _ _ _ _ _ _ _ _ (Or.inr ⟨6, hk, hW, hL⟩)⟩)
    · refine ⟨fun c => absurd c (by decide), fun _ => ⟨fun c => absurd c (by decide), fun _ => ⟨fun c => absurd c (by decide), fun _ => ⟨fun _ => ?_, fun c => absurd (by decide) c⟩⟩⟩⟩
      exact s_windStands (e0 := e) htl hb t1 hX (fun r e' nums' xf' hL hx => ⟨Or.inr rfl, hok 7 r e' _ _ _ _ _ _ _ _ _ _ _ _ _ hk hW hL hx⟩) (fun e' nums' hL => ⟨Or.inl rfl, hno _ _ _ _ _ _ _ _ _ _ _ _ _ _ (Or.inr ⟨7, hk, hW, hL⟩)⟩)
    · refine ⟨fun c => absurd c (by decide), fun _ => ⟨fun c => absurd c (by decide), fun _ => ⟨fun c => absurd c (by decide), fun _ => ⟨fun c => absurd c (by decide), fun _ => ⟨fun _ => ?_, fun c => absurd (by decide) c⟩⟩⟩⟩⟩
      exact s_pairStands (e0 := e) htl hb t1 ho (by omega) hX (fun r e' nums' xa' xp' hL hx => ⟨Or.inr rfl, hok 8 r e' _ _ _ _ _ _ _ _ _ _ _ _ _ hk hW hL hx⟩) (fun e' nums' hL => ⟨Or.inl rfl, hno _ _ _ _ _ _ _ _ _ _ _ _ _ _ (Or.inr ⟨8, hk, hW, hL⟩)⟩)
    · refine ⟨fun c => absurd c (by decide), fun _ => ⟨fun c => absurd c (by decide), fun _ => ⟨fun c => absurd c (by decide), fun _ => ⟨fun c => absurd c (by decide), fun _ => ⟨fun c => absurd c (by decide), fun _ => ⟨fun _ => ?_, fun c => absurd (by decide) c⟩⟩⟩⟩⟩⟩
      refine ⟨41, s_tellWind (a := 0) (b := 39) (by omega) 40 0 xv (by omega) (fun w' hw => hok 9 (rz_3 0 0 0) _ _ _ _ _ _ _ _ _ _ _ _ _ _ hk hW rfl (x_site hX (fun d hd => by rw [hw d, if_pos (by omega)])))⟩
end RF
