/-! The step isLeast -/
section ZLF
variable {F k : Nat} {K : zK} {I : zI} {R : zR} {n : Nat} {J J' : zI} {RM : zR} {o : Nat} {T A B : Tm} {fs fj fc fe gj gc ge : Nat → Nat}
/-- the sorts of the pattern's holes -/
theorem least77 (hRM : zRM RM) {r1 : Nat} (hr : r1 < 8) (hT : tWF T) (hs : zHs2 T fs) (x2 x3 : Int32) : ∀ (d i f : Nat) (J : zI), i + d = tn T → d < f → zTm (J 90) (97 * r1) T → ∃ J', (∀ b, b ≠ 100 → J' b = J b) ∧ (∀ g, J' 100 g = J 100 g ∨ J' 100 g = nI (fs g)) ∧ (∀ p, i ≤ p → p < tn T → ts T p ≠ 0 → J' 100 (tg T p) = nI (fs (tg T p))) ∧ f_X7_isLeast_77 F zKm RM 89 f J (nI r1) x2 x3 (nI i) = (zbd (f_X7_lays F zKm J' RM 89 (nI (97 * r1)) ((97 : Int32) * x2) 1) fun I42 => zbd (f_X7_lays F zKm I42 RM 89 (nI (97 * r1)) ((97 : Int32) * x3) 0) fun I44 => f_X7_isLeast_167 F zKm RM 89 F I44 1 0) := by
  have r0 : RM 89 0 = some 90 := hRM 89 0 (by decide) (by decide) (by decide)
  have r17 : RM 89 17 = some 100 := hRM 89 17 (by decide) (by decide) (by decide)
  have hn := hT.1.2.1
  intro d
  induction d with
  | zero =>
    intro i f J hd hf hTm
    obtain ⟨f, rfl⟩ : ∃ y, f = y + 1 := ⟨f - 1, by omega⟩
    refine ⟨J, fun _ _ => rfl, fun _ => Or.inl rfl, fun p p1 p2 => by omega, ?_⟩
    show g_X7_isLeast_77 F zKm RM 89 _ J (nI r1) x2 x3 (nI i) = _
    unfold g_X7_isLeast_77
    rw [r0, zbd_s, zd91, zbd_s, show (97 : Int32) * nI r1 = nI (97 * r1) by rw [nl97, nI_mul], zrd_s (by rw [zKm91]; show 97 * r1 < 5751; omega) (by decide), zbd_s, hTm.1, if_pos (nI_le (by omega) (by omega))]
  | succ d ih =>
    intro i f J hd hf hTm
    obtain ⟨f, rfl⟩ : ∃ y, f = y + 1 := ⟨f - 1, by omega⟩
    have hi : i < tn T := by omega
    obtain ⟨w1, -, w3, w4, -⟩ := hT.2.1 i hi
    have hgo : f_X7_isLeast_77 F zKm RM 89 (f + 1) J (nI r1) x2 x3 (nI i) = if nI (ts T i) = (0 : Int32) then f_X7_isLeast_77 F zKm RM 89 f J (nI r1) x2 x3 (nI (i + 1)) else (zbd (zwr zKm J 100 (nI (tg T i)) (nI (ts T i))) fun I57 => f_X7_isLeast_77 F zKm RM 89 f I57 (nI r1) x2 x3 (nI (i + 1))) := by
      show g_X7_isLeast_77 F zKm RM 89 (f_X7_isLeast_77 F zKm RM 89 f) J (nI r1) x2 x3 (nI i) = _
      unfold g_X7_isLeast_77 f_X7_isLeast_129
      rw [r0, zbd_s, zd91, zbd_s, show (97 : Int32) * nI r1 = nI (97 * r1) by rw [nl97, nI_mul], zrd_s (by rw [zKm91]; show 97 * r1 < 5751; omega) (by decide), zbd_s, hTm.1, if_neg (nI_ge (by omega) (by omega)), X7_sort r0 (by omega) hTm hn hi, zbd_s, r17, zbd_s, X7_number r0 (by omega) hTm hn hi, zbd_s, zbd_s, zdr_s (t := 1) rfl, zbd_s, nI_1]
    by_cases h0 : ts T i = 0
    · obtain ⟨J', a1, a2, a3, a4⟩ := ih (i + 1) f J (by omega) (by omega) hTm
      refine ⟨J', a1, a2, fun p p1 p2 p3 => ?_, by rw [hgo, if_pos ((ni0 (by omega)).mpr h0), a4]⟩
      have : p ≠ i := fun e => p3 (by rw [e]; exact h0)
      exact a3 p (by omega) p2 p3
    · have hg := w4 h0
      have hfs : fs (tg T i) = ts T i := by
        rcases hs (tg T i) with ⟨-, z⟩ | ⟨p, p1, p2, p3, p4⟩
        · exact absurd rfl (z i hi h0)
        · rw [p4]; exact hT.2.2.1 p i p1 hi p2 h0 p3
      obtain ⟨J', a1, a2, a3, a4⟩ := ih (i + 1) f (zup J 100 (tg T i) (nI (ts T i))) (by omega) (by omega) (by rw [zup_ne _ _ _ (by decide)]; exact hTm)
      refine ⟨J', fun b hb => by rw [a1 b hb, zup_ne _ _ _ hb], fun g => ?_, fun p p1 p2 p3 => ?_, ?_⟩
      · rcases a2 g with e | e
        · by_cases hgi : g = tg T i
          · rw [hgi, zup_self] at e
            exact Or.inr (by rw [hgi, hfs]; exact e)
          · rw [zup_self_ne _ _ _ hgi] at e
            exact Or.inl e
        · exact Or.inr e
      · by_cases hp : p = i
        · subst hp
          rcases a2 (tg T p) with e | e
          · rw [zup_self] at e
            rw [hfs]; exact e
          · exact e
        · exact a3 p (by omega) p2 p3
      · rw [hgo, if_neg (fun e => h0 ((ni0 (by omega)).mp e)), zwr_s (by show _ < 10; omega) (by decide), zbd_s, a4]
theorem zup01 (R : zR) (m : Nat) (x y : Option Nat) : ∀ b, b ≠ m → zup (zup R m 0 x) m 1 y b = R b := fun b hb => by rw [zup_ne _ _ _ hb, zup_ne _ _ _ hb]
/-- isLeast() of three registers that hold terms -/
theorem least_at (hF : 5000 ≤ F) (hS : zSim k K I R n zKm J RM) {r1 r2 r3 t u v : Nat} (hr1 : r1 < 8) (hr2 : r2 < 8) (hr3 : r3 < 8) (ht : R 3 r1 = some t) (hu : R 3 r2 = some u) (hv : R 3 r3 = some v) :
    ∃ r I1 R1 J1, (zbd3 (f_X1_matches F K I R 41 (some t) (some u)) fun v55 I56 R57 => if v55 = (0 : Int32) then some ((0 : Int32), I56, R57) else (zbd (some (R57 0 10)) fun o60 => zbd (zdr K o60 11) fun a61 => zbd3 (f_X1_matches F K I56 R57 a61 (some t) (some v)) fun v64 I65 R66 => if v64 = (0 : Int32) then some ((0 : Int32), I65, R66) else f_X6_isLeast_104 F K 0 F I65 R66 (0 : Int32))) = some (r, I1, R1) ∧ f_X7_isLeast_32 F zKm RM 89 J (nI r1) (nI r2) (nI r3) 0 = some (r, J1) ∧ zSim k K I1 R1 n zKm J1 RM := by
  obtain ⟨hcf, hRM, -, hK, hR, hn⟩ := zSim_ctx hS
  have k57 : (K 56).1 = 11 := by rw [hK 56 (by decide)]; rfl
  rcases zSim_at hS hr1 with ⟨e, -⟩ | ⟨t', T, e, -, ht1, -, hT, hTc, hTm⟩
  · rw [ht] at e; cases e
  rw [ht] at e; cases e
  rcases zSim_at hS hr2 with ⟨e, -⟩ | ⟨u', A, e, -, hu1, -, hA, hAc, hAm⟩
  · rw [hu] at e; cases e
  rw [hu] at e; cases e
  rcases zSim_at hS hr3 with ⟨e, -⟩ | ⟨v', B, e, -, hv1, -, hB, hBc, hBm⟩
  · rw [hv] at e; cases e
  rw [hv] at e; cases e
  have hM42 := zMk_of hcf (Or.inl rfl : (41 : Nat) = 41 ∨ 41 = 56)
  obtain ⟨w, I1, J1, hw, m1, m2, fC1, fM1, -⟩ := match_both (F := F) (J := J) (o := 97 * r1) (q := 97 * r2) (by omega) hM42 hRM ht1 hu1 (by omega) (by omega) hT hA hTc hAc hTm hAm
  obtain ⟨R1, hR1⟩ : ∃ x, x = zup (zup R 41 0 (some t)) 41 1 (some u) := ⟨_, rfl⟩
  rw [← hR1] at m1
  have eR1 : ∀ b, b ≠ 41 → R1 b = R b := fun b hb => by rw [hR1]; exact zup01 _ _ _ _ b hb
  have hS1 : ∀ k', zSim k' K I1 R1 n zKm J1 RM := fun k' => zSim_match (Or.inl rfl) hS fC1 (fun b j hb => by rw [hR1]; unfold zup; rw [if_neg (by omega), if_neg (by omega)]) fM1
  unfold f_X7_isLeast_32
  rw [if_pos rfl, show (97 : Int32) * nI r1 = nI (97 * r1) by rw [nl97, nI_mul], show (97 : Int32) * nI r2 = nI (97 * r2) by rw [nl97, nI_mul], show (97 : Int32) * nI r3 = nI (97 * r3) by rw [nl97, nI_mul], m1, zbd3_s, m2, zbd2_s]
  rcases hw with rfl | rfl
  · exact ⟨0, I1, R1, J1, by rw [if_pos rfl], by rw [if_pos rfl], hS1 k⟩
  rw [if_neg (by decide), if_neg (by decide), show R1 0 10 = some 56 by rw [eR1 0 (by decide)]; exact hR 10 (by decide), zbd_s, zdr_s k57, zbd_s]
  have hbI : ∀ b, 92 ≤ b → I1 b = I b := fun b hb => fC1 b (by omega)
  have hbR : ∀ b, 92 ≤ b → R1 b = R b := fun b hb => eR1 b (by omega)
  have hTc1 := zTc_row hTc ht1 hbI hbR
  have hAc1 := zTc_row hAc hu1 hbI hbR
  have hBc1 := zTc_row hBc hv1 hbI hbR
  have j91 : J1 90 = J 90 := fM1.1 90 (by decide) (by decide) (by decide) (by decide)
  have hcf1 := (zSim_ctx (hS1 k)).1
  have hM57 := zMk_of hcf1 (Or.inr rfl : (56 : Nat) = 41 ∨ 56 = 56)
  have hTm1 : zTm (J1 90) (97 * r1) T := by rw [j91]; exact hTm
  have hAm1 : zTm (J1 90) (97 * r2) A := by rw [j91]; exact hAm
  have hBm1 : zTm (J1 90) (97 * r3) B := by rw [j91]; exact hBm
  obtain ⟨w, I2, J2, hw, o1, o2, fC2, fM2, -⟩ := match_both (F := F) (J := J1) (o := 97 * r1) (q := 97 * r3) (by omega) hM57 hRM ht1 hv1 (by omega) (by omega) hT hB hTc1 hBc1 hTm1 hBm1
  obtain ⟨R2, hR2⟩ : ∃ x, x = zup (zup R1 56 0 (some t)) 56 1 (some v) := ⟨_, rfl⟩
  rw [← hR2] at o1
  have eR2 : ∀ b, b ≠ 56 → R2 b = R1 b := fun b hb => by rw [hR2]; exact zup01 _ _ _ _ b hb
  have hS2 : ∀ k', zSim k' K I2 R2 n zKm J2 RM := fun k' => zSim_match (Or.inr rfl) (hS1 k) fC2 (fun b j hb => by rw [hR2]; unfold zup; rw [if_neg (by omega), if_neg (by omega)]) fM2
  rw [o1, zbd3_s, o2, zbd2_s]
  rcases hw with rfl | rfl
  · exact ⟨0, I2, R2, J2, by rw [if_pos rfl], by rw [if_pos rfl], hS2 k⟩
  rw [if_neg (by decide), if_neg (by decide)]
  -- the reference's holes
  have q91 : J2 90 = J 90 := (fM2.1 90 (by decide) (by decide) (by decide) (by decide)).trans j91
  obtain ⟨fs, hfs⟩ := zHs2_of T
  have hTn := hT.1.2.1
  obtain ⟨J3, a1, a2, a3, a4⟩ := least77 (F := F) (x2 := nI r2) (x3 := nI r3) hRM hr1 hT hfs (tn T) 0 F J2 (by omega) (by omega) (by rw [q91]; exact hTm)
  rw [show (97 : Int32) * nI r2 = nI (97 * r2) by rw [nl97, nI_mul], show (97 : Int32) * nI r3 = nI (97 * r3) by rw [nl97, nI_mul]] at a4
  have p91 : J3 90 = J 90 := (a1 90 (by decide)).trans q91
  have h101 : ∀ g, fs g ≠ 0 → J3 100 g = nI (fs g) := fun g hg => by
    rcases hfs g with ⟨z, -⟩ | ⟨p, p1, p2, p3, -⟩
    · exact absurd z hg
    · have := a3 p (Nat.zero_le _) p1 p2
      rw [p3] at this
      exact this
  -- the first pass
  obtain ⟨w, I1', J4, -, x1, x2, -, fM4, x5⟩ := match_both (F := F) (J := J3) (o := 97 * r1) (q := 97 * r2) (by omega) hM42 hRM ht1 hu1 (by omega) (by omega) hT hA hTc hAc (by rw [p91]; exact hTm) (by rw [p91]; exact hAm)
  rw [← hR1, m1] at x1
  obtain ⟨rfl, rfl⟩ : (1 : Int32) = w ∧ I1 = I1' := by
    simp only [Option.some.injEq, Prod.mk.injEq] at x1
    exact ⟨x1.1, x1.2.1⟩
  obtain ⟨hfl, -, h94⟩ := x5 rfl
  obtain ⟨fj, fc, fe, hff⟩ := zFF_of hfl
  have hGA := zGG_of hT hfs hff
  have s91 : J4 90 = J 90 := (fM4.1 90 (by decide) (by decide) (by decide) (by decide)).trans p91
  have s101 : J4 100 = J3 100 := fM4.1 100 (by decide) (by decide) (by decide) (by decide)
  have hLA : zLc A I1 J4 41 (97 * r2) fs fj fc fe := ⟨hA, by rw [s91]; exact hAm, fun g _ h0 => by rw [s101]; exact h101 g h0, h94, hGA⟩
  obtain ⟨J5, b1, b2, -, b4⟩ := lays10 (F := F) (x3 := 1) hRM (by omega) (by omega) 10 0 F J4 (by omega) (by omega) hLA
  have el1 : f_X7_lays F zKm J3 RM 89 (nI (97 * r1)) (nI (97 * r2)) 1 = some J5 := by
    unfold f_X7_lays
    rw [x2, zbd2_s]
    exact b4
  -- the second pass
  have t91 : J5 90 = J 90 := (b1 90 (by omega)).trans s91
  obtain ⟨w, I2', J6, -, y1, y2, -, fM6, y5⟩ := match_both (F := F) (J := J5) (o := 97 * r1) (q := 97 * r3) (by omega) hM57 hRM ht1 hv1 (by omega) (by omega) hT hB hTc1 hBc1 (by rw [t91]; exact hTm) (by rw [t91]; exact hBm)
  rw [← hR2, o1] at y1
  obtain ⟨rfl, rfl⟩ : (1 : Int32) = w ∧ I2 = I2' := by
    simp only [Option.some.injEq, Prod.mk.injEq] at y1
    exact ⟨y1.1, y1.2.1⟩
  obtain ⟨hfl', -, h94'⟩ := y5 rfl
  obtain ⟨gj, gc, ge, hff'⟩ := zFF_of hfl'
  have hGB := zGG_of hT hfs hff'
  have v91 : J6 90 = J 90 := (fM6.1 90 (by decide) (by decide) (by decide) (by decide)).trans t91
  have v101 : J6 100 = J3 100 := ((fM6.1 100 (by decide) (by decide) (by decide) (by decide)).trans (b1 100 (by omega))).trans s101
  have hLB : zLc B I2 J6 56 (97 * r3) fs gj gc ge := ⟨hB, by rw [v91]; exact hBm, fun g _ h0 => by rw [v101]; exact h101 g h0, h94', hGB⟩
  obtain ⟨J7, c1, c2, -, c4⟩ := lays10 (F := F) (x3 := 0) hRM (by omega) (by omega) 10 0 F J6 (by omega) (by omega) hLB
  have el2 : f_X7_lays F zKm J5 RM 89 (nI (97 * r1)) (nI (97 * r3)) 0 = some J7 := by
    unfold f_X7_lays
    rw [y2, zbd2_s]
    exact c4
  obtain ⟨z, z1, z2, z3⟩ := least167 (F := F) (J := J7) hRM (by omega) 10 0 F 1 (by omega) (by omega) (Or.inr rfl)
  -- the program's loop
  have hGA2 : zGG A I2 J4 41 fs fj fc fe := fun g hg => by
    rw [fC2 (41 + 11) (by omega), fC2 (41 + 12) (by omega), fC2 (41 + 13) (by omega), fC2 (41 + 14) (by omega)]
    exact hGA g hg
  have hbI2 : ∀ b, 92 ≤ b → I2 b = I1 b := fun b hb => fC2 b (by omega)
  have hbR2 : ∀ b, 92 ≤ b → R2 b = R1 b := fun b hb => eR2 b (by omega)
  have hcf2 := (zSim_ctx (hS2 k)).1
  have hOA : zMo K I2 R2 J4 41 u A fs fj fc fe := ⟨zMk_of hcf2 (Or.inl rfl), by rw [eR2 41 (by decide), hR1]; exact zup_self _ _ _ _, hA, zTc_row hAc1 hu1 hbI2 hbR2, hGA2⟩
  have hOB : zMo K I2 R2 J6 56 v B fs gj gc ge := ⟨zMk_of hcf2 (Or.inr rfl), by rw [hR2]; exact zup_self _ _ _ _, hB, zTc_row hBc1 hv1 hbI2 hbR2, hGB⟩
  have rr : ∀ j, R2 0 j = R 0 j := fun j => by rw [eR2 0 (by decide), eR1 0 (by decide)]
  obtain ⟨y, yy1, yy2, yy3⟩ := least104 (F := F) (by omega) ((rr 9).trans (hR 9 (by decide))) ((rr 10).trans (hR 10 (by decide))) hOA hOB 10 0 F (by omega) (by omega)
  have hsame : y = z := by
    have key : z = 1 ↔ y = 1 := by
      rw [z2, yy2]
      have e116 : ∀ b, 114 < b → J6 b = J5 b := fun b hb => fM6.1 b (by omega) (by omega) (by omega) (Or.inr hb)
      constructor
      · rintro ⟨-, hz⟩ x - hx
        obtain ⟨k1, k2, k3, k4, k5⟩ := hz x (Nat.zero_le _) hx
        obtain ⟨⟨A1, A2, A3, A4, A5⟩, A6⟩ := b2 x (Nat.zero_le _) hx
        obtain ⟨⟨B1, B2, B3, B4, B5⟩, B6⟩ := c2 x (Nat.zero_le _) hx
        rw [e116 116 (by decide), e116 117 (by decide)] at B1
        rw [e116 118 (by decide)] at B3
        rw [e116 119 (by decide)] at B4
        rw [e116 120 (by decide)] at B5
        rw [if_pos (Or.inl (by decide))] at A1
        refine ⟨fun hc => ?_, fun ⟨y, y1, y2, y3⟩ => ?_⟩
        · rcases (cNar_iff hA hB hGA2 hGB hx).mp hc with e | e | e | e
          · rw [A1, A2, if_pos (Or.inr ⟨e.1, e.2.1⟩)] at B1
            exact e.2.2 (B1.symm.trans k1)
          · exact B3.mpr ⟨e.2, Or.inr (A3.mpr ⟨e.1, Or.inl (by decide)⟩)⟩ k2
          · exact B4.mpr ⟨e.2, Or.inr (A4.mpr ⟨e.1, Or.inl (by decide)⟩)⟩ k3
          · exact B5.mpr ⟨e.2, Or.inr (A5.mpr ⟨e.1, Or.inl (by decide)⟩)⟩ k4
        · refine (B6 y (by omega)).mpr ⟨⟨by omega, sFil_sym y3⟩, Or.inr ?_⟩ (k5 y (by omega))
          rw [e116 115 (by decide)]
          exact (A6 y (by omega)).mpr ⟨⟨by omega, sFil_sym y2⟩, Or.inl (by decide)⟩
      · intro hy
        refine ⟨rfl, fun x _ hx => ?_⟩
        obtain ⟨n1, -⟩ := hy x (Nat.zero_le _) hx
        obtain ⟨⟨A1, A2, A3, A4, A5⟩, A6⟩ := b2 x (Nat.zero_le _) hx
        obtain ⟨⟨B1, B2, B3, B4, B5⟩, B6⟩ := c2 x (Nat.zero_le _) hx
        rw [e116 116 (by decide), e116 117 (by decide)] at B1
        rw [e116 118 (by decide)] at B3
        rw [e116 119 (by decide)] at B4
        rw [e116 120 (by decide)] at B5
        rw [if_pos (Or.inl (by decide))] at A1
        have hno := fun e => n1 ((cNar_iff hA hB hGA2 hGB hx).mpr e)
        have n0 : ((0 : Int32) ≠ 0) → False := fun e => e rfl
        refine ⟨?_, ?_, ?_, ?_, fun y hy1 => ?_⟩
        · rw [B1, A1, A2]
          by_cases e : lIts A fs fj x = lIts B fs gj x ∧ lWid A fs fj x = lWid B fs gj x
          · rw [if_pos (Or.inr e)]
            exact Classical.byContradiction fun e9 => hno (Or.inl ⟨e.1, e.2, e9⟩)
          · rw [if_neg (fun z => z.elim n0 e)]
        · exact Classical.byContradiction fun e9 => by
            obtain ⟨d1, d2⟩ := B3.mp e9
            exact hno (Or.inr (Or.inl ⟨(A3.mp (d2.resolve_left n0)).1, d1⟩))
        · exact Classical.byContradiction fun e9 => by
            obtain ⟨d1, d2⟩ := B4.mp e9
            exact hno (Or.inr (Or.inr (Or.inl ⟨(A4.mp (d2.resolve_left n0)).1, d1⟩)))
        · exact Classical.byContradiction fun e9 => by
            obtain ⟨d1, d2⟩ := B5.mp e9
            exact hno (Or.inr (Or.inr (Or.inr ⟨(A5.mp (d2.resolve_left n0)).1, d1⟩)))
        · exact Classical.byContradiction fun e9 => by
            obtain ⟨⟨d0, d1⟩, d2⟩ := (B6 y hy1).mp e9
            rw [e116 115 (by decide)] at d2
            obtain ⟨⟨-, d3⟩, -⟩ := (A6 y hy1).mp (d2.resolve_left n0)
            rcases Nat.lt_or_gt_of_ne d0 with hl | hl
            · exact (hy x (Nat.zero_le _) hx).2 ⟨y, hl, sFil_sym d3, sFil_sym d1⟩
            · exact (hy y (Nat.zero_le _) hy1).2 ⟨x, hl, d3, d1⟩
    rcases yy1 with rfl | rfl
    · rcases z1 with rfl | rfl
      · rfl
      · exact absurd (key.mp rfl) (by decide)
    · rcases z1 with rfl | rfl
      · exact absurd (key.mpr rfl) (by decide)
      · rfl
  refine ⟨y, I2, R2, J7, yy3, ?_, ?_⟩
  · show f_X7_isLeast_77 F zKm RM 89 F J2 (nI r1) (nI r2) (nI r3) (nI 0) = _
    rw [a4, el1, zbd_s, el2, zbd_s, hsame]
    exact z3
  · have e90 : ∀ q, q = 1 ∨ q = 3 ∨ q = 4 → J7 89 q = J2 89 q := fun q hq => by
      rw [c1 89 (by omega), fM6.2 q (by omega), b1 89 (by omega), fM4.2 q (by omega), a1 89 (by decide)]
    exact zSim_scr2 (hS2 k) (fun q _ => by rw [c1 90 (by omega), v91, q91]) (by rw [c1 91 (by omega), fM6.1 91 (by decide) (by decide) (by decide) (by decide), b1 91 (by omega), fM4.1 91 (by decide) (by decide) (by decide) (by decide), a1 91 (by decide)]) e90
end ZLF
theorem step_isLeast (F : Nat) (hF : 5000 ≤ F) : zStep_isLeast F 89 zSim := by
  intro k K I R n KM J RM x1 x2 x3 hS
  have hS0 : zSim k K I R n KM J RM := zSim_scr hS (fun _ _ => rfl)
  obtain ⟨hcf, hRM, rfl, hK, hR, hn⟩ := zSim_ctx hS
  have hR0 : RM 89 0 = some 90 := hRM 89 0 (by decide) (by decide) (by decide)
  have r3 : R 0 3 = some 2 := hR 3 (by decide)
  have r9 : R 0 9 = some 41 := hR 9 (by decide)
  have k42 : (K 41).1 = 11 := by rw [hK 41 (by decide)]; rfl
  have k2 : (K 2).1 = 14 := by rw [hK 2 (by decide)]; rfl
  have z10 : ¬ ((1 : Int32) = 0) := by decide
  have e30 : ∀ x : Int32, x ≠ 0 → f_X7_isLeast_30 F zKm RM 89 J x1 x2 x3 x = some (x, J) := fun x hx => by
    unfold f_X7_isLeast_30 f_X7_isLeast_32
    rw [if_neg hx]
  by_cases h3 : 0 ≤ x3 ∧ x3 ≤ 7
  · obtain ⟨c, hc, rfl⟩ := zreg h3
    by_cases h12 : (0 ≤ x1 ∧ x1 ≤ 7) ∧ (0 ≤ x2 ∧ x2 ≤ 7)
    · obtain ⟨a, ha, rfl⟩ := zreg h12.1
      obtain ⟨b, hb, rfl⟩ := zreg h12.2
      have e6 : f_X6_isLeast F K I R 0 (nI a) (nI b) (nI c) = zcs (R 3 a) (some ((-2 : Int32), I, R)) (fun a45 => zcs (R 3 b) (some ((-2 : Int32), I, R)) (fun a47 => zcs (R 3 c) (some ((-2 : Int32), I, R)) (fun a49 => zbd3 (f_X1_matches F K I R 41 (some a45) (some a47)) fun v55 I56 R57 => if v55 = (0 : Int32) then some ((0 : Int32), I56, R57) else (zbd (some (R57 0 10)) fun o60 => zbd (zdr K o60 11) fun a61 => zbd3 (f_X1_matches F K I56 R57 a61 (some a45) (some a49)) fun v64 I65 R66 => if v64 = (0 : Int32) then some ((0 : Int32), I65, R66) else f_X6_isLeast_104 F K 0 F I65 R66 (0 : Int32))))) := by
        unfold f_X6_isLeast
        rw [X6_reg ha, zbd_s, if_pos rfl, X6_reg hb, zbd_s, if_pos rfl, X6_reg hc, zbd_s, if_pos rfl, r3, zbd_s, zdr_s k2, zbd_s, X6_term hcf ha, zbd_s, zbd_s, zdr_s k2, zbd_s, X6_term hcf hb, zbd_s, zbd_s, zdr_s k2, zbd_s, X6_term hcf hc, zbd_s]
        simp only [r9, zbd_s, zdr_s k42]
      have e7 : f_X7_isLeast F zKm J RM 89 (nI a) (nI b) (nI c) = (zbd (f_X7_wrong F zKm J RM 89 (nI a) (nI b) 1) fun v69 => if v69 = (0 : Int32) then (if J 90 (97 * c) = 0 then f_X7_isLeast_32 F zKm RM 89 J (nI a) (nI b) (nI c) (-2) else f_X7_isLeast_30 F zKm RM 89 J (nI a) (nI b) (nI c) v69) else f_X7_isLeast_30 F zKm RM 89 J (nI a) (nI b) (nI c) v69) := by
        unfold f_X7_isLeast
        rw [X7_reg hc, zbd_s, X7_isEmpty hR0 hc]
        by_cases h : J 90 (97 * c) = 0
        · simp only [zbd_s, if_pos h, if_neg z10]
        · simp only [zbd_s, if_neg h, ↓reduceIte]
      rw [e6, e7]
      rcases zSim_at hS ha with ⟨p1, q1⟩ | ⟨t1, T1, p1, q1, -⟩
      · refine ⟨-2, I, R, J, by rw [p1, zcs_n], ?_, hS0⟩
        rw [X7_wrong2 hR0 ha hb (Or.inl q1), zbd_s, if_neg (by decide), e30 _ (by decide)]
      rcases zSim_at hS hb with ⟨p2, q2⟩ | ⟨t2, T2, p2, q2, -⟩
      · refine ⟨-2, I, R, J, by rw [p1, zcs_s, p2, zcs_n], ?_, hS0⟩
        rw [X7_wrong2 hR0 ha hb (Or.inr q2), zbd_s, if_neg (by decide), e30 _ (by decide)]
      rw [X7_wrong0 hR0 ha hb q1 q2, zbd_s, if_pos rfl]
      rcases zSim_at hS hc with ⟨p3, q3⟩ | ⟨t3, T3, p3, q3, -⟩
      · refine ⟨-2, I, R, J, by rw [p1, zcs_s, p2, zcs_s, p3, zcs_n], ?_, hS0⟩
        rw [if_pos q3]
        rfl
      rw [p1, zcs_s, p2, zcs_s, p3, zcs_s, if_neg q3]
      obtain ⟨r, I1, R1, J1, c1, c2, c3⟩ := least_at (F := F) hF hS0 ha hb hc p1 p2 p3
      exact ⟨r, I1, R1, J1, c1, c2, c3⟩
    · refine ⟨-1, I, R, J, ?_, ?_, hS0⟩
      · unfold f_X6_isLeast
        by_cases h1 : 0 ≤ x1 ∧ x1 ≤ 7
        · obtain ⟨r, hr, rfl⟩ := zreg h1
          rw [X6_reg hr, zbd_s, if_pos rfl, X6_noreg (fun h2 => h12 ⟨h1, h2⟩), zbd_s, if_neg z10]
        · rw [X6_noreg h1, zbd_s, if_neg z10]
      · unfold f_X7_isLeast
        rw [X7_reg hc, zbd_s, X7_wrong1 _ h12, zbd_s, if_neg (by decide), e30 _ (by decide)]
  · refine ⟨-1, I, R, J, ?_, ?_, hS0⟩
    · unfold f_X6_isLeast
      by_cases h1 : 0 ≤ x1 ∧ x1 ≤ 7
      · obtain ⟨r, hr, rfl⟩ := zreg h1
        rw [X6_reg hr, zbd_s, if_pos rfl]
        by_cases h2 : 0 ≤ x2 ∧ x2 ≤ 7
        · obtain ⟨q, hq, rfl⟩ := zreg h2
          rw [X6_reg hq, zbd_s, if_pos rfl, X6_noreg h3, zbd_s, if_neg z10]
        · rw [X6_noreg h2, zbd_s, if_neg z10]
      · rw [X6_noreg h1, zbd_s, if_neg z10]
    · unfold f_X7_isLeast
      rw [X7_noreg h3, zbd_s, X7_wrongF, zbd_s, if_neg (by decide), e30 _ (by decide)]
