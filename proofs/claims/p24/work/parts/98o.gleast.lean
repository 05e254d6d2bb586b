/-! isLeast() ONCE MORE: its answer said in words of the fillings -/
def lEx (F : Nat) (J : zI) (RM : zR) (r1 r2 r3 : Nat) (r : Int32) (J7 : zI) : Prop := (∀ q, q < 5460 → J7 90 q = J 90 q) ∧ J7 89 1 = J 89 1 ∧ ((∃ J1, f_X7_matches F zKm J RM 89 (nI (97 * r1)) (nI (97 * r2)) = some (0, J1)) ∨ (∃ J1 J2 : zI, J1 90 = J 90 ∧ f_X7_matches F zKm J1 RM 89 (nI (97 * r1)) (nI (97 * r3)) = some (0, J2)) ∨ ∃ (T A B : Tm) (fs fj fc fe gj gc ge : Nat → Nat) (I J3 J4 J5 J6 : zI), (tWF T ∧ tWF A ∧ tWF B) ∧ (zTm (J 90) (97 * r1) T ∧ zTm (J 90) (97 * r2) A ∧ zTm (J 90) (97 * r3) B) ∧ J3 90 = J 90 ∧ J5 90 = J 90 ∧ f_X7_matches F zKm J3 RM 89 (nI (97 * r1)) (nI (97 * r2)) = some (1, J4) ∧ f_X7_matches F zKm J5 RM 89 (nI (97 * r1)) (nI (97 * r3)) = some (1, J6) ∧ zHs2 T fs ∧ zGG A I J4 41 fs fj fc fe ∧ zGG B I J6 56 fs gj gc ge ∧ (r = 1 ↔ ∀ x, 0 ≤ x → x < 10 → ¬ cNar A B fs fj fe gj ge x ∧ ¬ ∃ y, y < x ∧ sFil A fs fj fc y x ∧ sFil B fs gj gc y x))
section ZLF2
variable {F k : Nat} {K : zK} {I : zI} {R : zR} {n : Nat} {J J' : zI} {RM : zR} {o : Nat} {T A B : Tm} {fs fj fc fe gj gc ge : Nat → Nat}
theorem least_at2 (hF : 5000 ≤ F) (hS : zSim k K I R n zKm J RM) {r1 r2 r3 t u v : Nat} (hr1 : r1 < 8) (hr2 : r2 < 8) (hr3 : r3 < 8) (ht : R 3 r1 = some t) (hu : R 3 r2 = some u) (hv : R 3 r3 = some v) :
    ∃ r I1 R1 J1, (zbd3 (f_X1_matches F K I R 41 (some t) (some u)) fun v55 I56 R57 => if v55 = (0 : Int32) then some ((0 : Int32), I56, R57) else (zbd (some (R57 0 10)) fun o60 => zbd (zdr K o60 11) fun a61 => zbd3 (f_X1_matches F K I56 R57 a61 (some t) (some v)) fun v64 I65 R66 => if v64 = (0 : Int32) then some ((0 : Int32), I65, R66) else f_X6_isLeast_104 F K 0 F I65 R66 (0 : Int32))) = some (r, I1, R1) ∧ f_X7_isLeast_32 F zKm RM 89 J (nI r1) (nI r2) (nI r3) 0 = some (r, J1) ∧ zSim k K I1 R1 n zKm J1 RM ∧ lEx F J RM r1 r2 r3 r J1 := by
  obtain ⟨hcf, hRM, -, hK, hR, hn⟩ := zSim_ctx hS
  have k57 : (K 56).1 = 11 := by rw [hK 56 (by decide)]; rfl
  rcases zSim_at hS hr1 with ⟨e, -⟩ | ⟨t', T, e, -, ht1, -, hT, hTc, hTm⟩
  · rw [ht] at e; cases e
  rw [ht] at e; cases e
  rcases zSim_at hS hr2 with ⟨e, -⟩ | ⟨u', A, e, -, hu1, -, hA, hAc, hAm⟩
  · rw [hu] at e; cases e
  rw [hu] at e; cases e
  rcases zSim_at hS hr3 with ⟨e, -⟩ | ⟨v', B, e, -, hv1, -, hB, hBc, hBm⟩
  · rw [hv] at e; cases e
  rw [hv] at e; cases e
  have hM42 := zMk_of hcf (Or.inl rfl : (41 : Nat) = 41 ∨ 41 = 56)
  obtain ⟨w, I1, J1, hw, m1, m2, fC1, fM1, -⟩ := match_both (F := F) (J := J) (o := 97 * r1) (q := 97 * r2) (by omega) hM42 hRM ht1 hu1 (by omega) (by omega) hT hA hTc hAc hTm hAm
  obtain ⟨R1, hR1⟩ : ∃ x, x = zup (zup R 41 0 (some t)) 41 1 (some u) := ⟨_, rfl⟩
  rw [← hR1] at m1
  have eR1 : ∀ b, b ≠ 41 → R1 b = R b := fun b hb => by rw [hR1]; exact zup01 _ _ _ _ b hb
  have hS1 : ∀ k', zSim k' K I1 R1 n zKm J1 RM := fun k' => zSim_match (Or.inl rfl) hS fC1 (fun b j hb => by rw [hR1]; unfold zup; rw [if_neg (by omega), if_neg (by omega)]) fM1
  unfold f_X7_isLeast_32
  rw [if_pos rfl, show (97 : Int32) * nI r1 = nI (97 * r1) by rw [nl97, nI_mul], show (97 : Int32) * nI r2 = nI (97 * r2) by rw [nl97, nI_mul], show (97 : Int32) * nI r3 = nI (97 * r3) by rw [nl97, nI_mul], m1, zbd3_s, m2, zbd2_s]
  rcases hw with rfl | rfl
  · exact ⟨0, I1, R1, J1, by rw [if_pos rfl], by rw [if_pos rfl], hS1 k, fun q _ => by rw [fM1.1 90 (by decide) (by decide) (by decide) (by decide)], fM1.2 1 (by decide), Or.inl ⟨J1, m2⟩⟩
  rw [if_neg (by decide), if_neg (by decide), show R1 0 10 = some 56 by rw [eR1 0 (by decide)]; exact hR 10 (by decide), zbd_s, zdr_s k57, zbd_s]
  have hbI : ∀ b, 92 ≤ b → I1 b = I b := fun b hb => fC1 b (by omega)
  have hbR : ∀ b, 92 ≤ b → R1 b = R b := fun b hb => eR1 b (by omega)
  have hTc1 := zTc_row hTc ht1 hbI hbR
  have hAc1 := zTc_row hAc hu1 hbI hbR
  have hBc1 := zTc_row hBc hv1 hbI hbR
  have j91 : J1 90 = J 90 := fM1.1 90 (by decide) (by decide) (by decide) (by decide)
  have hcf1 := (zSim_ctx (hS1 k)).1
  have hM57 := zMk_of hcf1 (Or.inr rfl : (56 : Nat) = 41 ∨ 56 = 56)
  have hTm1 : zTm (J1 90) (97 * r1) T := by rw [j91]; exact hTm
  have hAm1 : zTm (J1 90) (97 * r2) A := by rw [j91]; exact hAm
  have hBm1 : zTm (J1 90) (97 * r3) B := by rw [j91]; exact hBm
  obtain ⟨w, I2, J2, hw, o1, o2, fC2, fM2, -⟩ := match_both (F := F) (J := J1) (o := 97 * r1) (q := 97 * r3) (by omega) hM57 hRM ht1 hv1 (by omega) (by omega) hT hB hTc1 hBc1 hTm1 hBm1
  obtain ⟨R2, hR2⟩ : ∃ x, x = zup (zup R1 56 0 (some t)) 56 1 (some v) := ⟨_, rfl⟩
  rw [← hR2] at o1
  have eR2 : ∀ b, b ≠ 56 → R2 b = R1 b := fun b hb => by rw [hR2]; exact zup01 _ _ _ _ b hb
  have hS2 : ∀ k', zSim k' K I2 R2 n zKm J2 RM := fun k' => zSim_match (Or.inr rfl) (hS1 k) fC2 (fun b j hb => by rw [hR2]; unfold zup; rw [if_neg (by omega), if_neg (by omega)]) fM2
  rw [o1, zbd3_s, o2, zbd2_s]
  rcases hw with rfl | rfl
  · exact ⟨0, I2, R2, J2, by rw [if_pos rfl], by rw [if_pos rfl], hS2 k, fun q _ => by rw [fM2.1 90 (by decide) (by decide) (by decide) (by decide), j91], (fM2.2 1 (by decide)).trans (fM1.2 1 (by decide)), Or.inr (Or.inl ⟨J1, J2, j91, o2⟩)⟩
  rw [if_neg (by decide), if_neg (by decide)]
  -- the reference's holes
  have q91 : J2 90 = J 90 := (fM2.1 90 (by decide) (by decide) (by decide) (by decide)).trans j91
  obtain ⟨fs, hfs⟩ := zHs2_of T
  have hTn := hT.1.2.1
  obtain ⟨J3, a1, a2, a3, a4⟩ := least77 (F := F) (x2 := nI r2) (x3 := nI r3) hRM hr1 hT hfs (tn T) 0 F J2 (by omega) (by omega) (by rw [q91]; exact hTm)
  rw [show (97 : Int32) * nI r2 = nI (97 * r2) by rw [nl97, nI_mul], show (97 : Int32) * nI r3 = nI (97 * r3) by rw [nl97, nI_mul]] at a4
  have p91 : J3 90 = J 90 := (a1 90 (by decide)).trans q91
  have h101 : ∀ g, fs g ≠ 0 → J3 100 g = nI (fs g) := fun g hg => by
    rcases hfs g with ⟨z, -⟩ | ⟨p, p1, p2, p3, -⟩
    · exact absurd z hg
    · have := a3 p (Nat.zero_le _) p1 p2
      rw [p3] at this
      exact this
  -- the first pass
  obtain ⟨w, I1', J4, -, x1, x2, -, fM4, x5⟩ := match_both (F := F) (J := J3) (o := 97 * r1) (q := 97 * r2) (by omega) hM42 hRM ht1 hu1 (by omega) (by omega) hT hA hTc hAc (by rw [p91]; exact hTm) (by rw [p91]; exact hAm)
  rw [← hR1, m1] at x1
  obtain ⟨rfl, rfl⟩ : (1 : Int32) = w ∧ I1 = I1' := by
    simp only [Option.some.injEq, Prod.mk.injEq] at x1
    exact ⟨x1.1, x1.2.1⟩
  obtain ⟨hfl, -, h94⟩ := x5 rfl
  obtain ⟨fj, fc, fe, hff⟩ := zFF_of hfl
  have hGA := zGG_of hT hfs hff
  have s91 : J4 90 = J 90 := (fM4.1 90 (by decide) (by decide) (by decide) (by decide)).trans p91
  have s101 : J4 100 = J3 100 := fM4.1 100 (by decide) (by decide) (by decide) (by decide)
  have hLA : zLc A I1 J4 41 (97 * r2) fs fj fc fe := ⟨hA, by rw [s91]; exact hAm, fun g _ h0 => by rw [s101]; exact h101 g h0, h94, hGA⟩
  obtain ⟨J5, b1, b2, -, b4⟩ := lays10 (F := F) (x3 := 1) hRM (by omega) (by omega) 10 0 F J4 (by omega) (by omega) hLA
  have el1 : f_X7_lays F zKm J3 RM 89 (nI (97 * r1)) (nI (97 * r2)) 1 = some J5 := by
    unfold f_X7_lays
    rw [x2, zbd2_s]
    exact b4
  -- the second pass
  have t91 : J5 90 = J 90 := (b1 90 (by omega)).trans s91
  obtain ⟨w, I2', J6, -, y1, y2, -, fM6, y5⟩ := match_both (F := F) (J := J5) (o := 97 * r1) (q := 97 * r3) (by omega) hM57 hRM ht1 hv1 (by omega) (by omega) hT hB hTc1 hBc1 (by rw [t91]; exact hTm) (by rw [t91]; exact hBm)
  rw [← hR2, o1] at y1
  obtain ⟨rfl, rfl⟩ : (1 : Int32) = w ∧ I2 = I2' := by
    simp only [Option.some.injEq, Prod.mk.injEq] at y1
    exact ⟨y1.1, y1.2.1⟩
  obtain ⟨hfl', -, h94'⟩ := y5 rfl
  obtain ⟨gj, gc, ge, hff'⟩ := zFF_of hfl'
  have hGB := zGG_of hT hfs hff'
  have v91 : J6 90 = J 90 := (fM6.1 90 (by decide) (by decide) (by decide) (by decide)).trans t91
  have v101 : J6 100 = J3 100 := ((fM6.1 100 (by decide) (by decide) (by decide) (by decide)).trans (b1 100 (by omega))).trans s101
  have hLB : zLc B I2 J6 56 (97 * r3) fs gj gc ge := ⟨hB, by rw [v91]; exact hBm, fun g _ h0 => by rw [v101]; exact h101 g h0, h94', hGB⟩
  obtain ⟨J7, c1, c2, -, c4⟩ := lays10 (F := F) (x3 := 0) hRM (by omega) (by omega) 10 0 F J6 (by omega) (by omega) hLB
  have el2 : f_X7_lays F zKm J5 RM 89 (nI (97 * r1)) (nI (97 * r3)) 0 = some J7 := by
    unfold f_X7_lays
    rw [y2, zbd2_s]
    exact c4
  obtain ⟨z, z1, z2, z3⟩ := least167 (F := F) (J := J7) hRM (by omega) 10 0 F 1 (by omega) (by omega) (Or.inr rfl)
  -- the program's loop
  have hGA2 : zGG A I2 J4 41 fs fj fc fe := fun g hg => by
    rw [fC2 (41 + 11) (by omega), fC2 (41 + 12) (by omega), fC2 (41 + 13) (by omega), fC2 (41 + 14) (by omega)]
    exact hGA g hg
  have hbI2 : ∀ b, 92 ≤ b → I2 b = I1 b := fun b hb => fC2 b (by omega)
  have hbR2 : ∀ b, 92 ≤ b → R2 b = R1 b := fun b hb => eR2 b (by omega)
  have hcf2 := (zSim_ctx (hS2 k)).1
  have hOA : zMo K I2 R2 J4 41 u A fs fj fc fe := ⟨zMk_of hcf2 (Or.inl rfl), by rw [eR2 41 (by decide), hR1]; exact zup_self _ _ _ _, hA, zTc_row hAc1 hu1 hbI2 hbR2, hGA2⟩
  have hOB : zMo K I2 R2 J6 56 v B fs gj gc ge := ⟨zMk_of hcf2 (Or.inr rfl), by rw [hR2]; exact zup_self _ _ _ _, hB, zTc_row hBc1 hv1 hbI2 hbR2, hGB⟩
  have rr : ∀ j, R2 0 j = R 0 j := fun j => by rw [eR2 0 (by decide), eR1 0 (by decide)]
  obtain ⟨y, yy1, yy2, yy3⟩ := least104 (F := F) (by omega) ((rr 9).trans (hR 9 (by decide))) ((rr 10).trans (hR 10 (by decide))) hOA hOB 10 0 F (by omega) (by omega)
  have hsame : y = z := by
    have key : z = 1 ↔ y = 1 := by
      rw [z2, yy2]
      have e116 : ∀ b, 114 < b → J6 b = J5 b := fun b hb => fM6.1 b (by omega) (by omega) (by omega) (Or.inr hb)
      constructor
      · rintro ⟨-, hz⟩ x - hx
        obtain ⟨k1, k2, k3, k4, k5⟩ := hz x (Nat.zero_le _) hx
        obtain ⟨⟨A1, A2, A3, A4, A5⟩, A6⟩ := b2 x (Nat.zero_le _) hx
        obtain ⟨⟨B1, B2, B3, B4, B5⟩, B6⟩ := c2 x (Nat.zero_le _) hx
        rw [e116 116 (by decide), e116 117 (by decide)] at B1
        rw [e116 118 (by decide)] at B3
        rw [e116 119 (by decide)] at B4
        rw [e116 120 (by decide)] at B5
        rw [if_pos (Or.inl (by decide))] at A1
        refine ⟨fun hc => ?_, fun ⟨y, y1, y2, y3⟩ => ?_⟩
        · rcases (cNar_iff hA hB hGA2 hGB hx).mp hc with e | e | e | e
          · rw [A1, A2, if_pos (Or.inr ⟨e.1, e.2.1⟩)] at B1
            exact e.2.2 (B1.symm.trans k1)
          · exact B3.mpr ⟨e.2, Or.inr (A3.mpr ⟨e.1, Or.inl (by decide)⟩)⟩ k2
          · exact B4.mpr ⟨e.2, Or.inr (A4.mpr ⟨e.1, Or.inl (by decide)⟩)⟩ k3
          · exact B5.mpr ⟨e.2, Or.inr (A5.mpr ⟨e.1, Or.inl (by decide)⟩)⟩ k4
        · refine (B6 y (by omega)).mpr ⟨⟨by omega, sFil_sym y3⟩, Or.inr ?_⟩ (k5 y (by omega))
          rw [e116 115 (by decide)]
          exact (A6 y (by omega)).mpr ⟨⟨by omega, sFil_sym y2⟩, Or.inl (by decide)⟩
      · intro hy
        refine ⟨rfl, fun x _ hx => ?_⟩
        obtain ⟨n1, -⟩ := hy x (Nat.zero_le _) hx
        obtain ⟨⟨A1, A2, A3, A4, A5⟩, A6⟩ := b2 x (Nat.zero_le _) hx
        obtain ⟨⟨B1, B2, B3, B4, B5⟩, B6⟩ := c2 x (Nat.zero_le _) hx
        rw [e116 116 (by decide), e116 117 (by decide)] at B1
        rw [e116 118 (by decide)] at B3
        rw [e116 119 (by decide)] at B4
        rw [e116 120 (by decide)] at B5
        rw [if_pos (Or.inl (by decide))] at A1
        have hno := fun e => n1 ((cNar_iff hA hB hGA2 hGB hx).mpr e)
        have n0 : ((0 : Int32) ≠ 0) → False := fun e => e rfl
        refine ⟨?_, ?_, ?_, ?_, fun y hy1 => ?_⟩
        · rw [B1, A1, A2]
          by_cases e : lIts A fs fj x = lIts B fs gj x ∧ lWid A fs fj x = lWid B fs gj x
          · rw [if_pos (Or.inr e)]
            exact Classical.byContradiction fun e9 => hno (Or.inl ⟨e.1, e.2, e9⟩)
          · rw [if_neg (fun z => z.elim n0 e)]
        · exact Classical.byContradiction fun e9 => by
            obtain ⟨d1, d2⟩ := B3.mp e9
            exact hno (Or.inr (Or.inl ⟨(A3.mp (d2.resolve_left n0)).1, d1⟩))
        · exact Classical.byContradiction fun e9 => by
            obtain ⟨d1, d2⟩ := B4.mp e9
            exact hno (Or.inr (Or.inr (Or.inl ⟨(A4.mp (d2.resolve_left n0)).1, d1⟩)))
        · exact Classical.byContradiction fun e9 => by
            obtain ⟨d1, d2⟩ := B5.mp e9
            exact hno (Or.inr (Or.inr (Or.inr ⟨(A5.mp (d2.resolve_left n0)).1, d1⟩)))
        · exact Classical.byContradiction fun e9 => by
            obtain ⟨⟨d0, d1⟩, d2⟩ := (B6 y hy1).mp e9
            rw [e116 115 (by decide)] at d2
            obtain ⟨⟨-, d3⟩, -⟩ := (A6 y hy1).mp (d2.resolve_left n0)
            rcases Nat.lt_or_gt_of_ne d0 with hl | hl
            · exact (hy x (Nat.zero_le _) hx).2 ⟨y, hl, sFil_sym d3, sFil_sym d1⟩
            · exact (hy y (Nat.zero_le _) hy1).2 ⟨x, hl, d3, d1⟩
    rcases yy1 with rfl | rfl
    · rcases z1 with rfl | rfl
      · rfl
      · exact absurd (key.mp rfl) (by decide)
    · rcases z1 with rfl | rfl
      · exact absurd (key.mpr rfl) (by decide)
      · rfl
  have w89 : J7 89 1 = J 89 1 := by
    rw [c1 89 (by omega), fM6.2 1 (by omega), b1 89 (by omega), fM4.2 1 (by omega), a1 89 (by decide), fM2.2 1 (by omega), fM1.2 1 (by omega)]
  refine ⟨y, I2, R2, J7, yy3, ?_, ?_, fun q _ => by rw [c1 90 (by omega), v91], w89, Or.inr (Or.inr ⟨T, A, B, fs, fj, fc, fe, gj, gc, ge, I2, J3, J4, J5, J6, ⟨hT, hA, hB⟩, ⟨hTm, hAm, hBm⟩, p91, t91, x2, y2, hfs, hGA2, hGB, yy2⟩)⟩
  · show f_X7_isLeast_77 F zKm RM 89 F J2 (nI r1) (nI r2) (nI r3) (nI 0) = _
    rw [a4, el1, zbd_s, el2, zbd_s, hsame]
    exact z3
  · have e90 : ∀ q, q = 1 ∨ q = 3 ∨ q = 4 → J7 89 q = J2 89 q := fun q hq => by
      rw [c1 89 (by omega), fM6.2 q (by omega), b1 89 (by omega), fM4.2 q (by omega), a1 89 (by decide)]
    exact zSim_scr2 (hS2 k) (fun q _ => by rw [c1 90 (by omega), v91, q91]) (by rw [c1 91 (by omega), fM6.1 91 (by decide) (by decide) (by decide) (by decide), b1 91 (by omega), fM4.1 91 (by decide) (by decide) (by decide) (by decide), a1 91 (by decide)]) e90
end ZLF2
theorem isLeast_some {F k : Nat} {K : zK} {I : zI} {R : zR} {n : Nat} {J : zI} {RM : zR} (hF : 5000 ≤ F) (hS : zSim k K I R n zKm J RM) {a b c t1 t2 t3 : Nat} (ha : a < 8) (hb : b < 8) (hc : c < 8) (p1 : R 3 a = some t1) (p2 : R 3 b = some t2) (p3 : R 3 c = some t3) : ∃ r I1 R1 J1, f_X6_isLeast F K I R 0 (nI a) (nI b) (nI c) = some (r, I1, R1) ∧ zSim k K I1 R1 n zKm J1 RM ∧ lEx F J RM a b c r J1 := by
  obtain ⟨hcf, hRM, -, hK, hR, hn⟩ := zSim_ctx hS
  have r3 : R 0 3 = some 2 := hR 3 (by decide)
  have r9 : R 0 9 = some 41 := hR 9 (by decide)
  have k42 : (K 41).1 = 11 := by rw [hK 41 (by decide)]; rfl
  have k2 : (K 2).1 = 14 := by rw [hK 2 (by decide)]; rfl
  have e6 : f_X6_isLeast F K I R 0 (nI a) (nI b) (nI c) = zcs (R 3 a) (some ((-2 : Int32), I, R)) (fun a45 => zcs (R 3 b) (some ((-2 : Int32), I, R)) (fun a47 => zcs (R 3 c) (some ((-2 : Int32), I, R)) (fun a49 => zbd3 (f_X1_matches F K I R 41 (some a45) (some a47)) fun v55 I56 R57 => if v55 = (0 : Int32) then some ((0 : Int32), I56, R57) else (zbd (some (R57 0 10)) fun o60 => zbd (zdr K o60 11) fun a61 => zbd3 (f_X1_matches F K I56 R57 a61 (some a45) (some a49)) fun v64 I65 R66 => if v64 = (0 : Int32) then some ((0 : Int32), I65, R66) else f_X6_isLeast_104 F K 0 F I65 R66 (0 : Int32))))) := by
    unfold f_X6_isLeast
    rw [X6_reg ha, zbd_s, if_pos rfl, X6_reg hb, zbd_s, if_pos rfl, X6_reg hc, zbd_s, if_pos rfl, r3, zbd_s, zdr_s k2, zbd_s, X6_term hcf ha, zbd_s, zbd_s, zdr_s k2, zbd_s, X6_term hcf hb, zbd_s, zbd_s, zdr_s k2, zbd_s, X6_term hcf hc, zbd_s]
    simp only [r9, zbd_s, zdr_s k42]
  obtain ⟨r, I1, R1, J1, c1, -, c3, c4⟩ := least_at2 (F := F) hF hS ha hb hc p1 p2 p3
  exact ⟨r, I1, R1, J1, by rw [e6, p1, zcs_s, p2, zcs_s, p3, zcs_s]; exact c1, c3, c4⟩
section GLE
variable {F : Nat} {J J7 : zI} {RM : zR} {S : gSt} {c : Nat → Int32} {r q t : Nat} {P A B : aFo} {tb : pTb} {hd : Bool}
/-- terms of one row are the same -/
theorem zTm_same {P : Nat → Int32} {o : Nat} {T U : Tm} (h : zTm P o T) (h' : zTm P o U) (hT : tWF T) (hU : tWF U) : tn T = tn U ∧ ∀ i, i < tn T → ts T i = ts U i ∧ tg T i = tg U i ∧ tr T i = tr U i := by
  have n1 := hT.1.2.1
  have n2 := hU.1.2.1
  have e : tn T = tn U := nI_inj (by omega) (by omega) (h.1.symm.trans h'.1)
  refine ⟨e, fun i hi => ?_⟩
  obtain ⟨a1, a2, a3⟩ := h.2 i hi
  obtain ⟨b1, b2, b3⟩ := h'.2 i (by omega)
  obtain ⟨s1, g1⟩ := tm_g12 hT hi
  obtain ⟨s2, g2⟩ := tm_g12 hU (show i < tn U by omega)
  have t1 := (hT.2.1 i hi).2.1
  have t2 := (hU.2.1 i (by omega)).2.1
  exact ⟨nI_inj (by omega) (by omega) (a1.symm.trans b1), nI_inj (by omega) (by omega) (a2.symm.trans b2), nI_inj (by omega) (by omega) (a3.symm.trans b3)⟩
/-- what the fillings say of one term -/
theorem fil_of {A : Tm} {X : aFo} {I J : zI} {m : Nat} {fs fj fc fe hs : Nat → Nat} {f : pFl} (hX : tWF (tmF X)) (hA : tWF A) (hsm : tn A = tn (tmF X) ∧ ∀ i, i < tn A → ts A i = ts (tmF X) i ∧ tg A i = tg (tmF X) i ∧ tr A i = tr (tmF X) i) (hG : zGG A I J m fs fj fc fe) (hf : gFl J (tmF X) hs f) {h : Nat} (hh : h < 10) :
    (f h = none → fs h = 0) ∧ ∀ Y j, f h = some (Y, j) → fs h ≠ 0 ∧ fj h = j ∧ fc h = qSz Y ∧ gQt (tmF X) (hs h) Y j ∧ j < tn A := by
  have n1 := hX.1.2.1
  refine ⟨fun e => ?_, fun Y j e => ?_⟩
  · rcases hf h hh with ⟨-, y2⟩ | ⟨Y, j, y1, -⟩
    · rcases hG h hh with ⟨g1, -⟩ | ⟨g1, -, -, -, -, -, g7, -, g9⟩
      · exact g1
      · obtain ⟨l, -⟩ := tFill_le hA.1 g1 g9
        have := hA.1.2.1
        exact absurd (g7.symm.trans y2) (nim1 (by omega))
    · rw [e] at y1; cases y1
  · rcases hf h hh with ⟨y1, -⟩ | ⟨Y', j', y1, y2, y3, y4⟩
    · rw [e] at y1; cases y1
    · rw [e] at y1
      cases y1
      have l := gQt_le y4
      have x1 : 1 ≤ qSz Y := by
        rcases y4 with ⟨-, e, -⟩ | ⟨-, -, rfl⟩
        · have := q_len_sz Y; omega
        · show 1 ≤ 1 + 0 + 0; omega
      rcases hG h hh with ⟨g1, -, g3⟩ | ⟨g1, -, -, -, -, g6, g7, -, g9⟩
      · exact absurd (y3.symm.trans g3) (nim1 (by omega))
      · obtain ⟨l2, -⟩ := tFill_le hA.1 g1 g9
        have := hA.1.2.1
        exact ⟨by omega, nI_inj (by omega) (by omega) (g6.symm.trans y2), nI_inj (by omega) (by omega) (g7.symm.trans y3), y4, by rw [hsm.1]; omega⟩
/-- the join is least -/
theorem g_least (hF : 5000 ≤ F) (hRM : zRM RM) (hb : gBl (J 90) 0 S c) (hr : r < 8) (hq : q < 8) (ht : t < 8) (hP : S r = some P) (hA : S q = some A) (hB : S t = some B) (hj : jn hd A B 0 0 [] = some (P, tb)) {v : Int32} (hE : lEx F J RM r q t v J7) (hAB : qLn A = qLn B) : v = 1 := by
  obtain ⟨aP, bP, -⟩ := gBl_some hb hr hP
  obtain ⟨aA, bA, -⟩ := gBl_some hb hq hA
  obtain ⟨aB, bB, -⟩ := gBl_some hb ht hB
  have hW := (gGd_jn aA hj).2
  have mA : mt P A 0 (fun _ => none) = some (pFA tb) := jn_mtA _ _ _ _ _ _ _ hj (Nat.zero_le _)
  have mB : mt P B 0 (fun _ => none) = some (pFB tb) := jn_mtB hj hAB (Nat.zero_le _)
  have hl : tb.length ≤ 10 := (jn_grow _ _ _ _ _ _ _ hj).2 (Nat.zero_le _)
  have hok := jn_ok _ _ _ _ _ _ _ hj pOk_nil
  have gb : ∀ {J' : zI}, J' 90 = J 90 → gBl (J' 90) 0 S c := fun {J'} e => by rw [e]; exact hb
  have emA : mi P A = 1 := by unfold mi mv; rw [mA]; rfl
  have emB : mi P B = 1 := by unfold mi mv; rw [mB]; rfl
  obtain ⟨-, -, hE⟩ := hE
  rcases hE with ⟨J1, e1⟩ | ⟨J1, J2, e0, e1⟩ | ⟨T, A', B', fs, fj, fc, fe, gj, gc, ge, I, J3, J4, J5, J6, ⟨wT, wA, wB⟩, ⟨tT, tA, tB⟩, p3, p5, x2, y2, hfs, hGA, hGB, hiff⟩
  · obtain ⟨J2, m1, -⟩ := g_match' hF hRM hb hr hq hP hA
    rw [m1, emA] at e1
    cases e1
  · obtain ⟨J2, m1, -⟩ := g_match' hF hRM (gb e0) hr ht hP hB
    rw [m1, emB] at e1
    cases e1
  obtain ⟨K4, m1, -, m3⟩ := g_match (hs := pHs tb) hF hRM (gb p3) hr hq hP hA hW
  rw [x2, emA] at m1
  obtain rfl : J4 = K4 := by
    simp only [Option.some.injEq, Prod.mk.injEq] at m1
    exact m1.2
  obtain ⟨K6, n1, -, n3⟩ := g_match (hs := pHs tb) hF hRM (gb p5) hr ht hP hB hW
  rw [y2, emB] at n1
  obtain rfl : J6 = K6 := by
    simp only [Option.some.injEq, Prod.mk.injEq] at n1
    exact n1.2
  have fA := m3 _ mA
  have fB := n3 _ mB
  have sP := zTm_same tT bP wT (gGd_wf aP).1
  have sA := zTm_same tA bA wA (gGd_wf aA).1
  have sB := zTm_same tB bB wB (gGd_wf aB).1
  have kA := fun {h : Nat} (hh : h < 10) => fil_of (gGd_wf aA).1 wA sA hGA fA hh
  have kB := fun {h : Nat} (hh : h < 10) => fil_of (gGd_wf aB).1 wB sB hGB fB hh
  -- the sort of a hole
  have hsrt : ∀ h e, h < 10 → tb[h]? = some e → fs h = e.1 := fun h e hh he => by
    have f0 : pFA tb h = some (e.2.1, e.2.2.2.1) := by unfold pFA; rw [he]; rfl
    have := ((kA hh).2 _ _ f0).1
    rcases hfs h with ⟨z, -⟩ | ⟨p, p1, p2, p3, p4⟩
    · exact absurd z this
    · obtain ⟨s1, s2, -⟩ := sP.2 p p1
      have hp : p < qSz P := by have := sP.1; show p < tn (tmF P); omega
      have w6 := (q_fW_at P hW p hp).2.2.2.2.2
      rw [← q_ts_f, ← q_tg_f, ← s1, ← s2, p3] at w6
      rw [p4, ← w6 p2]
      unfold pHs
      rw [he]
  have ent : ∀ h, h < 10 → fs h ≠ 0 → ∃ e, tb[h]? = some e ∧ fs h = e.1 ∧ (fj h = e.2.2.2.1 ∧ fc h = qSz e.2.1 ∧ gQt (tmF A) e.1 e.2.1 e.2.2.2.1 ∧ e.2.2.2.1 < tn A') ∧ gj h = e.2.2.2.2 ∧ gc h = qSz e.2.2.1 ∧ gQt (tmF B) e.1 e.2.2.1 e.2.2.2.2 ∧ e.2.2.2.2 < tn B' := fun h hh h0 => by
    cases he : tb[h]? with
    | none =>
      have f0 : pFA tb h = none := by unfold pFA; rw [he]; rfl
      exact absurd ((kA hh).1 f0) h0
    | some e =>
      have f0 : pFA tb h = some (e.2.1, e.2.2.2.1) := by unfold pFA; rw [he]; rfl
      have f1 : pFB tb h = some (e.2.2.1, e.2.2.2.2) := by unfold pFB; rw [he]; rfl
      obtain ⟨-, a2, a3, a4, a5⟩ := (kA hh).2 _ _ f0
      obtain ⟨-, b2, b3, b4, b5⟩ := (kB hh).2 _ _ f1
      have hs : pHs tb h = e.1 := by unfold pHs; rw [he]
      rw [hs] at a4 b4
      exact ⟨e, rfl, hsrt h e hh he, ⟨a2, a3, a4, a5⟩, b2, b3, b4, b5⟩
  -- the first nodes of the parts
  have top : ∀ {X : aFo} {T : Tm} {w j : Nat} {k : aFo}, tn T = tn (tmF X) → (∀ i, i < tn T → ts T i = ts (tmF X) i ∧ tg T i = tg (tmF X) i ∧ tr T i = tr (tmF X) i) → gQt (tmF X) 1 (pBr w k pNil) j → j < tn T → ts T j = w / 16 ∧ tg T j = w % 16 ∧ tr T j = qLn k := fun {X T w j k} h1 h2 h3 h4 => by
    rcases h3 with ⟨-, -, -, d, h⟩ | ⟨e, -⟩
    · obtain ⟨⟨z1, z2, z3, -⟩, -⟩ := h
      obtain ⟨y1, y2, y3⟩ := h2 j h4
      exact ⟨y1.trans z1, y2.trans z2, y3.trans z3⟩
    · cases e
  refine hiff.mpr fun x _ hx => ⟨fun hc => ?_, fun ⟨y, yx, s1, s2⟩ => ?_⟩
  · -- no hole can be narrower
    have h0 : fs x ≠ 0 := by rcases hc with ⟨e, -⟩ | ⟨e, -⟩ | ⟨e, -⟩ <;> omega
    obtain ⟨e, he, hs, ⟨a1, a2, a3, a4⟩, b1, b2, b3, b4⟩ := ent x hx h0
    rcases hok.1 x e he with ⟨o1, w, k, w', k', o2, o3, o4⟩ | ⟨o1, w, w', o2, o3, o4, o5, o6⟩
    · rcases hc with ⟨-, ⟨d1, d2, d3⟩, d4, -⟩ | ⟨e2, -⟩ | ⟨e3, -⟩
      · rw [o1, o2] at a3
        rw [o1, o3] at b3
        obtain ⟨u1, u2, u3⟩ := top sA.1 sA.2 a3 a4
        obtain ⟨v1, v2, v3⟩ := top sB.1 sB.2 b3 b4
        rw [a1] at d1 d3 d4
        rw [b1] at d2 d3 d4
        exact o4 ⟨by omega, by omega, by omega, by omega⟩
      · omega
      · omega
    · rcases hc with ⟨e1, -⟩ | ⟨-, d1, d2, d3⟩ | ⟨e3, -⟩
      · omega
      · rw [o1] at a3 b3
        rcases a3 with ⟨z, -⟩ | ⟨-, z1, z2⟩
        · cases z
        rcases b3 with ⟨z, -⟩ | ⟨-, z3, z4⟩
        · cases z
        rw [o2] at z2
        rw [o3] at z4
        injection z2 with z2 _ _
        injection z4 with z4 _ _
        rw [a1] at d1 d3
        rw [b1] at d2 d3
        obtain ⟨y1, y2, -⟩ := sA.2 _ a4
        obtain ⟨y3, y4, -⟩ := sB.2 _ b4
        exact o4 (by omega)
      · omega
  · -- no two holes are the same
    obtain ⟨s3, s4, s5, s6⟩ := s1
    obtain ⟨-, -, s7, s8⟩ := s2
    obtain ⟨e, he, hs, ⟨a1, a2, a3, a4⟩, b1, b2, b3, b4⟩ := ent y (by omega) s3
    obtain ⟨e', he', hs', ⟨a1', a2', a3', a4'⟩, b1', b2', b3', b4'⟩ := ent x hx (by omega)
    have same : ∀ {X : aFo} {T : Tm} {s j j' : Nat} {Y Y' : aFo}, tWF (tmF X) → tn T = tn (tmF X) → (∀ i, i < tn T → ts T i = ts (tmF X) i ∧ tg T i = tg (tmF X) i ∧ tr T i = tr (tmF X) i) → gQt (tmF X) s Y j → gQt (tmF X) s Y' j' → j < tn T → j' < tn T → qSz Y = qSz Y' → (if s = 2 then ts T j = ts T j' ∧ tg T j = tg T j' else tSame T j T j' (qSz Y)) → Y = Y' := fun {X T s j j' Y Y'} h0 h1 h2 h3 h4 h5 h6 h7 h8 => by
      have l3 := gQt_le h3
      have l4 := gQt_le h4
      rcases h3 with ⟨q1, q2, q3, d, q4⟩ | ⟨q1, q2, q3⟩
      · rcases h4 with ⟨-, q5, q6, d', q7⟩ | ⟨z, -⟩
        · rw [if_neg (by omega)] at h8
          refine tSame_eq Y Y' _ _ _ _ q4 q7 (by omega) fun i hi => ?_
          have u1 := h2 (j + i) (by omega)
          have u2 := h2 (j' + i) (by omega)
          have u3 := h8 i hi
          exact ⟨by omega, by omega, by omega⟩
        · omega
      · rcases h4 with ⟨z, -⟩ | ⟨-, q5, q6⟩
        · omega
        · rw [if_pos q1] at h8
          have u1 := h2 j h5
          have u2 := h2 j' h6
          rw [q3, q6, show ts (tmF X) j * 16 + tg (tmF X) j = ts (tmF X) j' * 16 + tg (tmF X) j' by omega]
    have ee : e.1 = e'.1 := by omega
    rw [← ee] at a3' b3'
    rw [a1, a1', a2, show fs y = e.1 from hs] at s6
    rw [b1, b1', b2, show fs y = e.1 from hs] at s8
    have z1 := same (gGd_wf aA).1 sA.1 sA.2 a3 a3' a4 a4' (by omega) s6
    have z2 := same (gGd_wf aB).1 sB.1 sB.2 b3 b3' b4 b4' (by omega) s8
    have := hok.2 y x e e' he he' ee z1 z2
    omega
end GLE
