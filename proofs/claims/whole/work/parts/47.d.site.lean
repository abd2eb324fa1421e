section RL
variable {c : Nat → Nat} {tl : Nat}
theorem rz_T_le {f : Int32} {mf : Nat} {Df : rz_D} (htl : tl ≤ 200) : ∀ (z m : Nat) (D : rz_D) (e : Nat) (l : List (Nat × (Nat → Nat))), e ≤ tl → f = -1 → rz_T c tl z D e m f mf Df l → mf ≤ m + z := by
  intro z
  induction z with
  | zero => intro m D e l he hf hT; exact hT.elim
  | succ z ih =>
    intro m D e l he hf hT
    rcases hT with ⟨e', hno, hf2⟩ | ⟨k, r, x, l', hk, hW, hL, rfl, h3⟩
    · have h1 := rz_s_le (c := c) (rz_no_le he hno)
      exact absurd (hf2.symm.trans hf) (nI_nm1 (by omega))
    · have hx := rz_Lok_le hk (rz_tt he) hL
      have h1 := rz_s_le (c := c) hx
      rcases h3 with ⟨-, -, hmf, -, -⟩ | ⟨-, -, hf2⟩ | ⟨-, -, hT⟩
      · omega
      · exact absurd (hf2.symm.trans hf) (nI_nm1 (by omega))
      · have := ih (m + 1) _ _ _ (rz_tt hx) hf hT
        omega
end RL
section RM
variable {ns np nb so : Nat} {K : Nat → Nat → Nat} {Pa Pb Wd : Nat → Nat} {xs xp xb xo xc : Int32} {xk xw xt xh xf xa xv : Nat → Int32} {ms mj mo mp : Int32} {mst mpr mwd : Nat → Int32}
theorem cz_S.toD (h : cz_S ns K np Pa Pb nb so Wd xs xp xb xo xc xk xw xt xh xf xa xv ms mj mo mp mst mpr mwd) : rz_ok (ns, K, np, Pa, Pb, nb, so, Wd) ∧ rz_X (ns, K, np, Pa, Pb, nb, so, Wd) xs xp xb xo xc xk xw xt xh xf xa xv ∧ rz_M (ns, K, np, Pa, Pb, nb, so, Wd) ms mj mo mp mst mpr mwd := by
  obtain ⟨h1, h2, h3, h4, h5, h6, h7, h8, h9, h10⟩ := h
  exact ⟨⟨h1, h2, h3, h4⟩, ⟨h5, h6, h7⟩, ⟨h8, h9, h10⟩⟩
theorem cz_S.ofD (h1 : rz_ok (ns, K, np, Pa, Pb, nb, so, Wd)) (h2 : rz_X (ns, K, np, Pa, Pb, nb, so, Wd) xs xp xb xo xc xk xw xt xh xf xa xv) (h3 : rz_M (ns, K, np, Pa, Pb, nb, so, Wd) ms mj mo mp mst mpr mwd) : cz_S ns K np Pa Pb nb so Wd xs xp xb xo xc xk xw xt xh xf xa xv ms mj mo mp mst mpr mwd :=
  ⟨h1.1, h1.2.1, h1.2.2.1, h1.2.2.2, h2.1, h2.2.1, h2.2.2, h3.1, h3.2.1, h3.2.2⟩
theorem cz_T.pick {xl ml : Int32} {xby mt : Nat → Int32} (h : cz_T xl xby ml mt) : ∃ (tl : Nat) (c : Nat → Nat), tl ≤ 200 ∧ xl = nI tl ∧ ml = nI tl ∧ (∀ j, j < tl → c j < 256 ∧ xby j = nI (c j)) ∧ (∀ j, j < tl → c j < 256 ∧ mt j = nI (c j)) := by
  obtain ⟨tl, h1, h2, h3, h4⟩ := h
  have key : ∀ j, j < tl → (xby j).toNatClampNeg < 256 ∧ xby j = nI (xby j).toNatClampNeg ∧ mt j = nI (xby j).toNatClampNeg := by
    intro j hj
    obtain ⟨q, a1, a2, a3⟩ := h4 j hj
    rw [a2, nI_clamp (by omega)]
    exact ⟨a1, rfl, a3⟩
  exact ⟨tl, fun j => (xby j).toNatClampNeg, h1, h2, h3, fun j hj => ⟨(key j hj).1, (key j hj).2.1⟩, fun j hj => ⟨(key j hj).1, (key j hj).2.2⟩⟩
variable {ds dp db dso dc : Int32} {dk dw dt dh df da dv : Nat → Int32} {den dst dln : Int32} {dnu : Nat → Int32}
variable {po rm rs rp fa ta dg nm : Int32} {tk : Int64} {rd : Nat → Int32} {xl ml : Int32} {xby mt : Nat → Int32}
theorem j_fault {post : Int32 → Int32 → Int32 → Int32 → Int32 → Int32 → (Nat → Int32) → (Nat → Int32) → (Nat → Int32) → (Nat → Int32) → (Nat → Int32) → (Nat → Int32) → (Nat → Int32) → Int32 → Int32 → Int32 → (Nat → Int32) → Int32 → Int32 → Int32 → Int32 → Int32 → Int32 → Int32 → Int32 → Int32 → Int64 → (Nat → Int32) → Prop} (hs : cz_S ns K np Pa Pb nb so Wd xs xp xb xo xc xk xw xt xh xf xa xv ms mj mo mp mst mpr mwd) (ht : cz_T xl xby ml mt)
    (hp : ∀ r u2 u3 u4 u5 u6 u7 u8 u9 u10 u11 u12 u13 u14 u15 u16 u17 u19 u20 u21 u22 u23 u24 u25 u26 u27 u28, post r u2 u3 u4 u5 u6 u7 u8 u9 u10 u11 u12 u13 u14 u15 u16 u17 r u19 u20 u21 u22 u23 u24 u25 u26 u27 u28) :
    f_X4_fault xs xp xb xo xc xk xw xt xh xf xa xv xl xby ds dp db dso dc dk dw dt dh df da dv den dst dln dnu (fun r1 u2 u3 u4 u5 u6 u7 u8 u9 u10 u11 u12 u13 u14 u15 u16 u17 => f_X5_fault ms mp ml mt po rm rs rp fa ta dg nm tk rd (fun r18 u19 u20 u21 u22 u23 u24 u25 u26 u27 u28 => post r1 u2 u3 u4 u5 u6 u7 u8 u9 u10 u11 u12 u13 u14 u15 u16 u17 r18 u19 u20 u21 u22 u23 u24 u25 u26 u27 u28)) := by
  obtain ⟨hD, hX, hM⟩ := hs.toD
  obtain ⟨tl, c, htl, rfl, rfl, hb1, hb2⟩ := ht.pick
  obtain ⟨⟨rfl, -, -, rfl⟩, -⟩ := hM
  refine s_firstFault htl hb1 hD hX (fun f mf Df l xs' xp' xb' xo' xc' xk' xw' xt' xh' xf' xa' xv' en st ln nums' hT _ => ?_)
  refine s_isRead htl hb2 hD hT (fun po rm rs rp ta dg nm tk rd' hf => ⟨fun _ => hp _ _ _ _ _ _ _ _ _ _ _ _ _ _ _ _ _ _ _ _ _ _ _ _ _ _ _, fun z => absurd rfl z⟩) (fun po rs rp fa ta dg nm tk rd' hf _ => ⟨fun z => absurd z (by decide), fun _ => ?_⟩)
  rw [hf]
  exact hp _ _ _ _ _ _ _ _ _ _ _ _ _ _ _ _ _ _ _ _ _ _ _ _ _ _ _
theorem s_siteLoop {mb mrows msg : Int32} {mnow mkp : Nat → Int32} {mf : Nat} {Df : rz_D} {post : Int32 → Int32 → Int32 → Int32 → Int32 → Int32 → Int32 → Int32 → Int32 → Int64 → (Nat → Int32) → Int32 → (Nat → Int32) → Int32 → Int32 → (Nat → Int32) → (Nat → Int32) → Int32 → (Nat → Int32) → Int32 → Int32 → (Nat → Int32) → Int32 → Prop} (hmf : mf ≤ 12)
    (fin : ∀ ms mj mo mp mst mpr mwd, rz_M Df ms mj mo mp mst mpr mwd → rz_ok Df → f_X5_site_33 mt post po (nI mf) rs rp fa ta dg nm tk rd mb mnow mrows msg mkp mpr mp mwd mo mj mst ms) : ∀ (l : List (Nat × (Nat → Nat))) (i : Nat) (D : rz_D) (ms mj mo mp : Int32) (mst mpr mwd : Nat → Int32), rz_do l D Df → rz_ok D → rz_lns rd (5 * i) l → i + l.length = mf → rz_M D ms mj mo mp mst mpr mwd → mx_l8 (f_X5_site_12 mt post po (nI mf) rs rp fa ta dg nm tk rd mb mnow mrows msg mkp) (l.length + 1) (nI i) mpr mp mwd mo mj mst ms := by
  intro l
  induction l with
  | nil =>
    intro i D ms mj mo mp mst mpr mwd hdo hD hln hi hM
    have hi : i + 0 = mf := hi
    have hdo : Df = D := hdo
    subst hdo
    exact ⟨fun _ => fin _ _ _ _ _ _ _ hM hD, fun z => absurd (nI_le (by omega) (by omega)) z⟩
  | cons kr l ih =>
    intro i D ms mj mo mp mst mpr mwd hdo hD hln hi hM
    obtain ⟨k, r⟩ := kr
    rw [List.length_cons] at hi
    obtain ⟨hk, hbd, hdo⟩ := hdo
    obtain ⟨hl1, hl2⟩ := hln
    refine ⟨fun z => absurd z (nI_ge (by omega) (by omega)), fun _ => ?_⟩
    rw [ix_5, nI_1]
    exact s_doLine (w := 5 * i) hk (by omega) hD hbd hl1 hM (fun ms' mj' mo' mp' mst' mpr' mwd' hM' => ih (i + 1) _ _ _ _ _ _ _ _ hdo (rz_ok_ap hk hD hbd) hl2 (by omega) hM')
theorem rz_nar0 : vp_nar .boolean 0 = 0 := by rfl
theorem j_site {tm td lm sm mrows msg : Int32} {xkp mnow mkp : Nat → Int32} {post : Int32 → Int32 → Int32 → Int32 → Int32 → Int32 → (Nat → Int32) → (Nat → Int32) → (Nat → Int32) → (Nat → Int32) → (Nat → Int32) → (Nat → Int32) → (Nat → Int32) → Int32 → Int32 → Int32 → (Nat → Int32) → Int32 → Int32 → Int32 → Int32 → Int32 → (Nat → Int32) → (Nat → Int32) → (Nat → Int32) → (Nat → Int32) → (Nat → Int32) → (Nat → Int32) → (Nat → Int32) → Int32 → Int32 → Int32 → Int32 → Int32 → (Nat → Int32) → Int32 → Int32 → Int32 → Int32 → Int32 → Int32 → Int32 → Int32 → Int32 → Int64 → (Nat → Int32) → Int32 → (Nat → Int32) → Int32 → Int32 → (Nat → Int32) → (Nat → Int32) → Int32 → (Nat → Int32) → Int32 → Int32 → (Nat → Int32) → Int32 → Prop} (hs : cz_S ns K np Pa Pb nb so Wd xs xp xb xo xc xk xw xt xh xf xa xv ms mj mo mp mst mpr mwd) (ht : cz_T xl xby ml mt)
    (hno : ∀ u2 u3 u4 u5 u6 u7 u8 u9 u10 u11 u12 u13 u14 u15 u16 u17 u37 u38 u39 u40 u41 u42 u43 u44 u45 u46, post (-4) u2 u3 u4 u5 u6 u7 u8 u9 u10 u11 u12 u13 u14 u15 u16 u17 xs xp xb xo xc xk xw xt xh xf xa xv xl tm td lm sm xkp (-4) u37 u38 u39 u40 u41 u42 u43 u44 u45 u46 ml mnow mrows msg mkp mpr mp mwd mo mj mst ms)
    (hok : ∀ r u2 u3 u4 u5 u6 u7 u8 u9 u10 u11 u12 u13 u14 u15 u16 u17 u18 u19 u20 u21 u22 u23 u24 u25 u26 u27 u28 u29 u35 u37 u38 u39 u40 u41 u42 u43 u44 u45 u46 u48 u51 u52 u53 u54 u55 u56 u57 u58 ns K np Pa Pb nb so Wd, cz_S ns K np Pa Pb nb so Wd u18 u19 u20 u21 u22 u23 u24 u25 u26 u27 u28 u29 u58 u56 u55 u53 u57 u52 u54 → u35 0 = 0 → u35 1 = 0 → u51 0 = 0 → u51 1 = 0 → u48 0 = 0 → u48 1 = 0 → post r u2 u3 u4 u5 u6 u7 u8 u9 u10 u11 u12 u13 u14 u15 u16 u17 u18 u19 u20 u21 u22 u23 u24 u25 u26 u27 u28 u29 0 0 0 0 0 u35 r u37 u38 u39 u40 u41 u42 u43 u44 u45 u46 0 u48 0 0 u51 u52 u53 u54 u55 u56 u57 u58) :
    f_X4_site xby ds dp db dso dc dk dw dt dh df da dv den dst dln dnu xs xp xb xo xc xk xw xt xh xf xa xv xl tm td lm sm xkp (fun r1 u2 u3 u4 u5 u6 u7 u8 u9 u10 u11 u12 u13 u14 u15 u16 u17 u18 u19 u20 u21 u22 u23 u24 u25 u26 u27 u28 u29 u30 u31 u32 u33 u34 u35 => f_X5_site mt po rm rs rp fa ta dg nm tk rd ml mnow mrows msg mkp mpr mp mwd mo mj mst ms (fun r36 u37 u38 u39 u40 u41 u42 u43 u44 u45 u46 u47 u48 u49 u50 u51 u52 u53 u54 u55 u56 u57 u58 => post r1 u2 u3 u4 u5 u6 u7 u8 u9 u10 u11 u12 u13 u14 u15 u16 u17 u18 u19 u20 u21 u22 u23 u24 u25 u26 u27 u28 u29 u30 u31 u32 u33 u34 u35 r36 u37 u38 u39 u40 u41 u42 u43 u44 u45 u46 u47 u48 u49 u50 u51 u52 u53 u54 u55 u56 u57 u58)) := by
  obtain ⟨hD, hX, hM⟩ := hs.toD
  obtain ⟨tl, c, htl, rfl, rfl, hb1, hb2⟩ := ht.pick
  have hM0 := hM
  obtain ⟨⟨rfl, -, -, rfl⟩, -⟩ := hM
  refine s_firstFault htl hb1 hD hX (fun f mf Df l xs' xp' xb' xo' xc' xk' xw' xt' xh' xf' xa' xv' en st ln nums' hT hf1 => ⟨fun hf => ?_, fun hf => ?_⟩)
  · obtain ⟨hX', hln, hD'⟩ := hf1 hf
    subst hln
    have hT2 := hT
    rw [hf] at hT2
    obtain ⟨hdo, hlen⟩ := rz_T_do htl 12 0 _ 0 l (Nat.zero_le _) hT2
    have hmf := rz_T_le htl 12 0 _ 0 l (Nat.zero_le _) hf hT
    refine ⟨3, ⟨fun z => absurd z (by decide), fun _ => ⟨vp_in_nI (n := 0) (by omega) (by omega), ?_⟩⟩⟩
    refine ⟨fun z => absurd z (by decide), fun _ => ⟨vp_in_nI (n := 1) (by omega) (by omega), ?_⟩⟩
    refine ⟨fun _ => ?_, fun z => absurd (by decide) z⟩
    refine s_isRead (D := (ns, K, np, Pa, Pb, nb, so, Wd)) (po := po) (rm := rm) (rs := rs) (rp := rp) htl hb2 hD hT (fun po rm rs rp ta dg nm tk rd' hf2 => absurd hf hf2) (fun po rs rp fa ta dg nm tk rd' _ hlns => ⟨fun _ => ?_, fun z => absurd z (by decide)⟩)
    refine ⟨_, s_siteLoop (by omega) (fun ms mj mo mp mst mpr mwd hM' _ => ?_) l 0 _ _ _ _ _ _ _ _ hdo hD hlns (by omega) hM0⟩
    obtain ⟨ns', K', np', Pa', Pb', nb', so', Wd'⟩ := Df
    refine ⟨vp_in_nI (n := 0) (by omega) (by omega), vp_in_nI (n := 1) (by omega) (by omega), vp_in_nI (n := 0) (by omega) (by omega), vp_in_nI (n := 1) (by omega) (by omega), ?_⟩
    exact hok _ _ _ _ _ _ _ _ _ _ _ _ _ _ _ _ _ _ _ _ _ _ _ _ _ _ _ _ _ _ _ _ _ _ _ _ _ _ _ _ _ _ _ _ _ _ _ _ _ ns' K' np' Pa' Pb' nb' so' Wd' (cz_S.ofD hD' (hX'.cpy hD') hM') rfl rfl rfl rfl rfl rfl
  · refine s_isRead (D := (ns, K, np, Pa, Pb, nb, so, Wd)) (po := po) (rm := rm) (rs := rs) (rp := rp) htl hb2 hD hT (fun po rm rs rp ta dg nm tk rd' hf2 => ⟨fun z => absurd rfl z, fun _ => hno _ _ _ _ _ _ _ _ _ _ _ _ _ _ _ _ _ _ _ _ _ _ _ _ _ _⟩) (fun po rs rp fa ta dg nm tk rd' hf2 _ => absurd hf2 hf)
end RM
