section RG
variable {c : Nat → Nat} {tl : Nat} {xby mt : Nat → Int32}
theorem rz_semi_in {x : Nat} : rz_in c tl (rz_s c tl x) 59 59 = true ↔ rz_semi c tl x := by
  rw [rz_in_iff]
  unfold rz_semi
  constructor <;> intro h <;> exact ⟨h.1, by omega⟩
theorem s_faultLoop {os op ob oo oc : Int32} {ok ow ot oh of oa ov : Nat → Int32} {post : Int32 → Int32 → Int32 → Int32 → Int32 → Int32 → (Nat → Int32) → (Nat → Int32) → (Nat → Int32) → (Nat → Int32) → (Nat → Int32) → (Nat → Int32) → (Nat → Int32) → Int32 → Int32 → Int32 → (Nat → Int32) → Prop} (htl : tl ≤ 200) (hb : ∀ j, j < tl → c j < 256 ∧ xby j = nI (c j)) : ∀ (z m : Nat) (D : rz_D) (e : Nat) (xs xp xb xo xc : Int32) (xk xw xt xh xf xa xv nums : Nat → Int32), m + z + 1 = 12 → rz_ok D → rz_X D xs xp xb xo xc xk xw xt xh xf xa xv → e ≤ tl →
    (∀ f mf Df l xs' xp' xb' xo' xc' xk' xw' xt' xh' xf' xa' xv' en st ln nums', rz_T c tl (z + 1) D e m f mf Df l → (f = -1 → rz_X Df xs' xp' xb' xo' xc' xk' xw' xt' xh' xf' xa' xv' ∧ ln = nI mf ∧ rz_ok Df) → post f xs' xp' xb' xo' xc' xk' xw' xt' xh' xf' xa' xv' en st ln nums') →
    mx_l16 (f_X0_firstFault_22 os op ob oo oc ok ow ot oh of oa ov (nI tl) xby post) (z + 1) xs xp xb xo xc xk xw xt xh xf xa xv (nI (rz_t c tl e)) (nI (rz_s c tl e)) (nI m) nums := by
  intro z
  induction z with
  | zero =>
    intro m D e xs xp xb xo xc xk xw xt xh xf xa xv nums hm hD hX he hp
    obtain ⟨ns, K, np, Pa, Pb, nb, so, Wd⟩ := D
    obtain ⟨s1, s2⟩ := rz_s_le (c := c) he
    refine ⟨fun c => absurd c (nI_ge (b := 12) (by omega) (by omega)), fun _ => s_lineStands htl hb he hD hX (fun k r x nums' xs' xp' xb' xo' xc' xk' xw' xt' xh' xf' xa' xv' hk hW hL hx => ⟨fun c => absurd c (by decide), fun _ => ?_⟩) (fun e' nums' xs' xp' xb' xo' xc' xk' xw' xt' xh' xf' xa' xv' hno => ⟨fun _ => ?_, fun c => absurd rfl c⟩)⟩
    · have hxl := rz_Lok_le hk (rz_tt he) hL
      obtain ⟨x1, x2⟩ := rz_s_le (c := c) hxl
      rw [nI_1, nI_eq (by omega) (by omega), show nI (m + 1) = 12 ↔ m + 1 = 12 from nI_eqn 12 (by omega) (by omega)]
      refine ⟨fun c1 => ⟨fun c2 => ?_, fun c2 => absurd (by omega) c2⟩, fun c1 => ?_⟩
      · exact hp _ 0 (0, K, 0, Pa, Pb, 0, 0, Wd) [(k, r)] _ _ _ _ _ _ _ _ _ _ _ _ _ _ _ _ (Or.inr ⟨k, r, x, [], hk, hW, hL, rfl, Or.inr (Or.inl ⟨c1, Or.inl c2, rfl⟩)⟩) (fun z => absurd z (nI_nm1 (by omega)))
      · exact hp (-1) (m + 1) (rz_ap k r (ns, K, np, Pa, Pb, nb, so, Wd)) [(k, r)] _ _ _ _ _ _ _ _ _ _ _ _ _ _ _ _ (Or.inr ⟨k, r, x, [], hk, hW, hL, rfl, Or.inl ⟨c1, rfl, rfl, rfl, rfl⟩⟩) (fun _ => ⟨hx, rfl, rz_ok_ap hk hD (rz_Lok_bd hk hL)⟩)
    · have hel := rz_no_le he hno
      obtain ⟨x1, x2⟩ := rz_s_le (c := c) hel
      exact hp _ 0 (0, K, 0, Pa, Pb, 0, 0, Wd) [] _ _ _ _ _ _ _ _ _ _ _ _ _ _ _ _ (Or.inl ⟨e', hno, rfl⟩) (fun z => absurd z (nI_nm1 (by omega)))
  | succ z ih =>
    intro m D e xs xp xb xo xc xk xw xt xh xf xa xv nums hm hD hX he hp
    obtain ⟨ns, K, np, Pa, Pb, nb, so, Wd⟩ := D
    obtain ⟨s1, s2⟩ := rz_s_le (c := c) he
    refine ⟨fun c => absurd c (nI_ge (b := 12) (by omega) (by omega)), fun _ => s_lineStands htl hb he hD hX (fun k r x nums' xs' xp' xb' xo' xc' xk' xw' xt' xh' xf' xa' xv' hk hW hL hx => ⟨fun c => absurd c (by decide), fun _ => ?_⟩) (fun e' nums' xs' xp' xb' xo' xc' xk' xw' xt' xh' xf' xa' xv' hno => ⟨fun _ => ?_, fun c => absurd rfl c⟩)⟩
    · have hxl := rz_Lok_le hk (rz_tt he) hL
      obtain ⟨x1, x2⟩ := rz_s_le (c := c) hxl
      rw [nI_1, nI_eq (by omega) (by omega), show nI (m + 1) = 12 ↔ m + 1 = 12 from nI_eqn 12 (by omega) (by omega)]
      refine ⟨fun c1 => ⟨fun c2 => absurd c2 (by omega), fun c2 => s_isBetween (lo := 59) (hi := 59) htl hb (by omega) (by omega) x2 (fun hs => ⟨fun _ => s_step htl hb (rz_tt hxl) ?_, fun c => absurd c (by decide)⟩) (fun hs => ⟨fun c => absurd rfl c, fun _ => ?_⟩)⟩, fun c1 => ?_⟩
      · refine ih (m + 1) _ (rz_t c tl x) _ _ _ _ _ _ _ _ _ _ _ _ _ (by omega) (rz_ok_ap hk hD (rz_Lok_bd hk hL)) hx (rz_tt hxl) (fun f mf Df l xs2 xp2 xb2 xo2 xc2 xk2 xw2 xt2 xh2 xf2 xa2 xv2 en st ln nums2 hT hf => ?_)
        exact hp f mf Df ((k, r) :: l) _ _ _ _ _ _ _ _ _ _ _ _ _ _ _ _ (Or.inr ⟨k, r, x, l, hk, hW, hL, rfl, Or.inr (Or.inr ⟨rz_semi_in.mp hs, by omega, hT⟩)⟩) hf
      · exact hp _ 0 (0, K, 0, Pa, Pb, 0, 0, Wd) [(k, r)] _ _ _ _ _ _ _ _ _ _ _ _ _ _ _ _ (Or.inr ⟨k, r, x, [], hk, hW, hL, rfl, Or.inr (Or.inl ⟨c1, Or.inr (fun z => hs (rz_semi_in.mpr z)), rfl⟩)⟩) (fun z => absurd z (nI_nm1 (by omega)))
      · exact hp (-1) (m + 1) (rz_ap k r (ns, K, np, Pa, Pb, nb, so, Wd)) [(k, r)] _ _ _ _ _ _ _ _ _ _ _ _ _ _ _ _ (Or.inr ⟨k, r, x, [], hk, hW, hL, rfl, Or.inl ⟨c1, rfl, rfl, rfl, rfl⟩⟩) (fun _ => ⟨hx, rfl, rz_ok_ap hk hD (rz_Lok_bd hk hL)⟩)
    · have hel := rz_no_le he hno
      obtain ⟨x1, x2⟩ := rz_s_le (c := c) hel
      exact hp _ 0 (0, K, 0, Pa, Pb, 0, 0, Wd) [] _ _ _ _ _ _ _ _ _ _ _ _ _ _ _ _ (Or.inl ⟨e', hno, rfl⟩) (fun z => absurd z (nI_nm1 (by omega)))
theorem rz_cpy40 {α : Type} {f g : Nat → α} {j : Nat} (h : j < 40) : va_cpy f g (0 : Int32).toNatClampNeg (0 : Int32).toNatClampNeg (40 : Int32).toNatClampNeg j = f j := by
  rw [show (0 : Int32).toNatClampNeg = 0 from rfl, show (40 : Int32).toNatClampNeg = 40 from rfl, pk_cpy_in (by omega) (by omega)]
  congr 1
  omega
/-- a site copied -/
theorem rz_X.cpy {D : rz_D} {xs xp xb xo xc : Int32} {xk xw xt xh xf xa xv gk gw gt gh gf ga gv : Nat → Int32} (hD : rz_ok D) (hX : rz_X D xs xp xb xo xc xk xw xt xh xf xa xv) : rz_X D xs xp xb xo xc (va_cpy xk gk (0 : Int32).toNatClampNeg (0 : Int32).toNatClampNeg (8 : Int32).toNatClampNeg) (va_cpy xw gw (0 : Int32).toNatClampNeg (0 : Int32).toNatClampNeg (8 : Int32).toNatClampNeg) (va_cpy xt gt (0 : Int32).toNatClampNeg (0 : Int32).toNatClampNeg (8 : Int32).toNatClampNeg) (va_cpy xh gh (0 : Int32).toNatClampNeg (0 : Int32).toNatClampNeg (8 : Int32).toNatClampNeg) (va_cpy xf gf (0 : Int32).toNatClampNeg (0 : Int32).toNatClampNeg (8 : Int32).toNatClampNeg) (va_cpy xa ga (0 : Int32).toNatClampNeg (0 : Int32).toNatClampNeg (8 : Int32).toNatClampNeg) (va_cpy xv gv (0 : Int32).toNatClampNeg (0 : Int32).toNatClampNeg (40 : Int32).toNatClampNeg) := by
  obtain ⟨ns, K, np, Pa, Pb, nb, so, Wd⟩ := D
  have hn8 : ns ≤ 8 := hD.1.1
  obtain ⟨h1, ⟨hc, h2⟩, h3⟩ := hX
  refine ⟨h1, ⟨hc, fun s hs => ?_⟩, fun d hd => ?_⟩
  · rw [cq_cpy (by omega), cq_cpy (by omega), cq_cpy (by omega), cq_cpy (by omega), cq_cpy (by omega), cq_cpy (by omega)]
    exact h2 s hs
  · rw [rz_cpy40 hd]
    exact h3 d hd
theorem s_firstFault {D : rz_D} {os op ob oo oc : Int32} {ok ow ot oh of oa ov : Nat → Int32} {xs xp xb xo xc : Int32} {xk xw xt xh xf xa xv : Nat → Int32} {en st ln : Int32} {nums : Nat → Int32} {post : Int32 → Int32 → Int32 → Int32 → Int32 → Int32 → (Nat → Int32) → (Nat → Int32) → (Nat → Int32) → (Nat → Int32) → (Nat → Int32) → (Nat → Int32) → (Nat → Int32) → Int32 → Int32 → Int32 → (Nat → Int32) → Prop} (htl : tl ≤ 200) (hb : ∀ j, j < tl → c j < 256 ∧ xby j = nI (c j)) (hD : rz_ok D) (hX : rz_X D os op ob oo oc ok ow ot oh of oa ov)
    (hp : ∀ f mf Df l xs' xp' xb' xo' xc' xk' xw' xt' xh' xf' xa' xv' en st ln nums', rz_T c tl 12 D 0 0 f mf Df l → (f = -1 → rz_X Df xs' xp' xb' xo' xc' xk' xw' xt' xh' xf' xa' xv' ∧ ln = nI mf ∧ rz_ok Df) → post f xs' xp' xb' xo' xc' xk' xw' xt' xh' xf' xa' xv' en st ln nums') :
    f_X0_firstFault os op ob oo oc ok ow ot oh of oa ov (nI tl) xby xs xp xb xo xc xk xw xt xh xf xa xv en st ln nums post := by
  unfold f_X0_firstFault f_X1_copyFrom
  exact s_step (e := 0) htl hb (Nat.zero_le _) ⟨12, s_faultLoop htl hb 11 0 D 0 _ _ _ _ _ _ _ _ _ _ _ _ _ (by omega) hD (hX.cpy hD) (Nat.zero_le _) hp⟩
end RG
