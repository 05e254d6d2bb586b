/-! The step apply -/
theorem zSim_build {k k' : Nat} {K K' : zK} {I I' : zI} {R R' : zR} {J J' : zI} {RM : zR} {n : Nat} (h : zSim k K I R n zKm J RM) (hK : ∀ b, b < n → K' b = K b) (hK2 : ∀ b, n + 4 ≤ b → K' b = K b) (hI : ∀ b, b < n → I' b = I b) (hR : ∀ b, b < n → R' b = R b) (h91 : ∀ q, q < 5460 → J' 90 q = J 90 q) (h90 : J' 89 = J 89) (h92 : J' 91 = J 91) : zSim k' K' I' R' (n + 4) zKm J' RM := by
  obtain ⟨b, hb, hb1, hb2, htx⟩ := h.2.1
  have hn := h.1.1
  exact zSim_keep h (by omega) hK (fun b hb => by rw [hK2 b hb]; exact h.1.2.2.2.1 b (by omega)) (fun c _ h2 => ⟨hI c h2, hR c h2⟩) (fun a j hf => by rw [hR a (by unfold zFin at hf; omega)]) (fun a ha r _ => by rw [hR (a + 1) (by unfold zHs zHa at ha; omega)]) (fun a ha j _ => by rw [hI (a + 2) (by unfold zHs zHa at ha; omega)]) (fun j _ => by rw [hR 5 (by omega)]) (by rw [hI 0 (by omega)]) h91 (by rw [h90]) ⟨b, hb, by rw [hI 0 (by omega)]; exact hb1, by rw [h90]; exact hb2, fun i hi => by rw [hI 1 (by omega), h92]; exact htx i hi⟩ (by rw [hI 0 (by omega), h90]; exact h.2.2.1)
section ZYS
variable {F k : Nat} {K : zK} {I : zI} {R : zR} {n : Nat} {J : zI} {RM : zR}
/-- apply() of three registers that hold terms, into a register -/
theorem apply_at (hF : 5000 ≤ F) (hS : zSim k K I R n zKm J RM) {r1 r2 r3 r4 t w u : Nat} (hr1 : r1 < 8) (hr2 : r2 < 8) (hr3 : r3 < 8) (hr4 : r4 < 8) (ht : R 3 r1 = some t) (hw : R 3 r2 = some w) (hu : R 3 r3 = some u) :
    ∃ v n1 K1 I1 R1 J1, (zbd3 (f_X1_matches F K I R 41 (some t) (some u)) fun v42 I43 R44 => if v42 = (0 : Int32) then some ((-2 : Int32), n, K, I43, R44) else (zbd (some (R44 0 9)) fun o47 => zbd (zdr K o47 11) fun a48 => zbd (f_X1_canFill F K I43 R44 a48 (some w)) fun v51 => if v51 = (0 : Int32) then some ((-2 : Int32), n, K, I43, R44) else (zbd (some (R44 0 9)) fun o54 => zbd (zdr K o54 11) fun a55 => zbd5 (f_X1_rewritten F n K I43 R44 a55 (some w)) fun o58 n59 K60 I61 R62 => if (K60 0).1 = 16 then (zbd3 (f_X6_keep F K60 I61 R62 0 o58 (nI r4)) fun v65 I66 R67 => some (v65, n59, K60, I66, R67)) else none))) = some (v, n1, K1, I1, R1) ∧ (zbd2 (f_X7_matches F zKm J RM 89 (nI (97 * r1)) (nI (97 * r3))) fun v2 I3 => if v2 = (0 : Int32) then some ((-2 : Int32), I3) else (zbd2 (f_X7_isApplicable F zKm I3 RM 89 (nI (97 * r1)) (nI (97 * r2)) (nI (97 * r3))) fun v6 I7 => if v6 = (0 : Int32) then some ((-2 : Int32), I7) else (zbd2 (f_X7_builds F zKm I7 RM 89 (nI (97 * r2)) (nI (97 * r3)) (nI 5654)) fun v10 I11 => if v10 = (0 : Int32) then some ((-3 : Int32), I11) else (zbd (f_X7_records F zKm I11 RM 89) fun I14 => zbd2 (f_X7_puts F zKm I14 RM 89 (nI 5654) (nI r4)) fun v16 I17 => some (v16, I17))))) = some (v, J1) ∧ zSim k K1 I1 R1 n1 zKm J1 RM := by
  obtain ⟨hcf, hRM, -, hK, hR, hn⟩ := zSim_ctx hS
  have k42 : (K 41).1 = 11 := by rw [hK 41 (by decide)]; rfl
  obtain ⟨v, I1, J1, T, U, hv, m1, m2, hS1, fC, fM, ⟨hT, hU, hTc, hUc, hTm, hUm, ht1, hu1⟩, hfl⟩ := sim_match (F := F) (by omega) hS (Or.inl rfl) hr1 hr3 ht hu
  have g9 : zup (zup R 41 0 (some t)) 41 1 (some u) 0 9 = some 41 := by rw [zup_nb _ _ _ (by decide), zup_nb _ _ _ (by decide)]; exact hR 9 (by decide)
  have g3 : ∀ j, zup (zup R 41 0 (some t)) 41 1 (some u) 3 j = R 3 j := fun j => by rw [zup_nb _ _ _ (by decide), zup_nb _ _ _ (by decide)]
  rw [m1, zbd3_s, m2, zbd2_s]
  rcases hv with rfl | rfl
  · exact ⟨-2, n, K, I1, _, J1, by rw [if_pos rfl], by rw [if_pos rfl], hS1 k⟩
  rw [if_neg (by decide), if_neg (by decide)]
  obtain ⟨hzl, -, -⟩ := hfl rfl
  obtain ⟨fj, fc, fe, hff⟩ := zFF_of hzl
  have hu2 : u + 4 ≤ n := by
    rcases zSim_at hS hr3 with ⟨e, -⟩ | ⟨u', U', e, -, -, h2, -⟩
    · rw [hu] at e; cases e
    · rw [hu] at e; cases e; exact h2
  have hbI : ∀ b, 92 ≤ b → I1 b = I b := fun b hb => fC b (by omega)
  have hbR : ∀ b, 92 ≤ b → zup (zup R 41 0 (some t)) 41 1 (some u) b = R b := fun b hb => by rw [zup_ne _ _ _ (by omega), zup_ne _ _ _ (by omega)]
  have hUc1 := zTc_row hUc hu1 hbI hbR
  have j91 : J1 90 = J 90 := fM.1 90 (by decide) (by decide) (by decide) (by decide)
  rcases zSim_at (hS1 k) hr2 with ⟨e, -⟩ | ⟨w', W, e, -, hw1, hw2, hW, hWc, hWm⟩
  · rw [g3, hw] at e; cases e
  rw [g3, hw] at e
  cases e
  have hcf1 := (zSim_ctx (hS1 k)).1
  have hM1 := zMk_of hcf1 (Or.inl rfl : (41 : Nat) = 41 ∨ 41 = 56)
  have e421 : zup (zup R 41 0 (some t)) 41 1 (some u) 41 1 = some u := zup_self _ _ _ _
  obtain ⟨v, J2, hv, a1, a2, a3, a4⟩ := applicable_both (F := F) (ol := 97 * r1) (ow := 97 * r2) (q := 97 * r3) (by omega) hM1 e421 hRM (by omega) (by omega) (by omega) hT hU hW hUc1 hWc (by rw [j91]; exact hTm) (by rw [j91]; exact hUm) hWm hff
  have hS2 : zSim k K I1 (zup (zup R 41 0 (some t)) 41 1 (some u)) n zKm J2 RM := zSim_scr (hS1 k) (fun b hb => a3 b (by omega))
  rw [a2, zbd2_s, g9, zbd_s, zdr_s k42, zbd_s, a1, zbd_s]
  rcases hv with rfl | rfl
  · exact ⟨-2, n, K, I1, _, J2, by rw [if_pos rfl], by rw [if_pos rfl], hS2⟩
  rw [if_neg (by decide), if_neg (by decide), zbd_s, zdr_s k42, zbd_s]
  obtain ⟨hap, hap2⟩ := a4 rfl
  -- the new term
  have r0 : RM 89 0 = some 90 := hRM 89 0 (by decide) (by decide) (by decide)
  have r5 : RM 89 5 = some 92 := hRM 89 5 (by decide) (by decide) (by decide)
  obtain ⟨tK1, tK2, tK3, tK4, tK5, tK6⟩ := zTn_K (K := K) (n := n)
  obtain ⟨tI1, tI2, tI3, tI4⟩ := zTn_I (I := I1) (n := n)
  obtain ⟨tR1, tR2, tR3, tR4⟩ := zTn_R (R := zup (zup R 41 0 (some t)) 41 1 (some u)) (n := n)
  have hWm2 : zTm (J2 90) (97 * r2) W := by rw [a3 90 (by decide)]; exact hWm
  have c1 := X7_counts (F := F) (J := J2) (by omega) r0 (o := 97 * r2) (by omega) (w := 92) rfl (by decide) hW.1 (tWF_r hW) hWm2
  obtain ⟨J3, hJ3⟩ : ∃ x, x = zrw J2 92 0 (tn W) (fun j => nI (tsp W j)) := ⟨_, rfl⟩
  have j3 : ∀ b, b ≠ 92 → J3 b = J2 b := fun b hb => by rw [hJ3, zrw_ne _ _ _ _ hb]
  have hM3 : zMk (zTnK K n) (zTnR (zup (zup R 41 0 (some t)) 41 1 (some u)) n) 41 := by
    obtain ⟨x1, x2, ⟨x3, x4, x5, x6, x7, x8⟩, x9, x10, x11, x12, x13, x14⟩ := hM1
    have e : ∀ y, y < 60 → zTnK K n y = K y := fun y hy => tK5 y (by omega)
    have e2 : zTnR (zup (zup R 41 0 (some t)) 41 1 (some u)) n 41 = zup (zup R 41 0 (some t)) 41 1 (some u) 41 := tR4 41 (by omega)
    exact ⟨x1, by rw [e _ (by decide)]; exact x2, ⟨by rw [e _ (by decide)]; exact x3, by rw [e _ (by decide)]; exact x4, by rw [e _ (by decide)]; exact x5, by rw [e _ (by decide)]; exact x6, by rw [e _ (by decide)]; exact x7, by rw [e _ (by decide)]; exact x8⟩, by rw [e2]; exact x9, by rw [e2]; exact x10, by rw [e2]; exact x11, by rw [e2]; exact x12, by rw [e2]; exact x13, by rw [e2]; exact x14⟩
  have hUc3 : zTc (zTnK K n) (zTnI I1 n) (zTnR (zup (zup R 41 0 (some t)) 41 1 (some u)) n) u U := zTc_keep hUc1 (fun b b1 b2 => ⟨tK5 b (by omega), tI3 b (by omega), tR4 b (by omega)⟩)
  have hWc3 : zTc (zTnK K n) (zTnI I1 n) (zTnR (zup (zup R 41 0 (some t)) 41 1 (some u)) n) w W := zTc_keep hWc (fun b b1 b2 => ⟨tK5 b (by omega), tI3 b (by omega), tR4 b (by omega)⟩)
  have hff3 : zFF T U (zTnI I1 n) J3 41 fj fc fe := fun g hg => by
    have := hff g hg
    rw [tI3 (41 + 11) (by omega), tI3 (41 + 12) (by omega), tI3 (41 + 13) (by omega), tI3 (41 + 14) (by omega), j3 112 (by decide), j3 113 (by decide), j3 114 (by decide), a3 112 (by decide), a3 113 (by decide), a3 114 (by decide)]
    exact this
  have hout := build_all (F := F) (m := 41) (p := n) (to := 5654) (n' := n + 4) (q := 97 * r3) (ow := 97 * r2) (T := T) (U := U) (W := W) (fj := fj) (fc := fc) (fe := fe) (by omega) hRM (by rw [tK5 41 (by omega)]; exact k42) hM3 (by rw [tR4 41 (by omega)]; exact e421) hu1 hu2 hw1 hw2 (by decide) (by omega) (by omega) hT hU hW ⟨tK1, tK2, tK3, tK4⟩ ⟨tR1, tR2, tR3⟩ hap hap2 (tn W) 0 1 F F (zTnI I1 n) J3 [] (Nat.zero_add _) (by have := hW.1.2.1; omega) (by have := hW.1.2.1; omega) hUc3 hWc3 (by rw [j3 90 (by decide), a3 90 (by decide), j91]; exact hUm) (by rw [j3 90 (by decide)]; exact hWm2) hff3 (fun y hy => by rw [hJ3, zrw_in _ _ _ (Nat.zero_le _) hy]) tI2 ⟨Nat.zero_le _, tI1, fun i v h => (by cases h)⟩ ⟨okL_nil, fun i v h => (by cases h)⟩ (by
      show [(0, false)] = labW W U fj fe 0 ++ []
      rw [List.append_nil]
      unfold labW
      rw [if_neg hW.2.2.2.1, hW.1.2.2.2.2.2.1]) (by show 0 + tsp W 0 = tn W; rw [hW.1.2.2.2.2.1, Nat.zero_add])
  obtain ⟨o, I', J', v, b1, b2, b3, b4, b5, b6⟩ := hout
  have eC : f_X1_rewritten F n K I1 (zup (zup R 41 0 (some t)) 41 1 (some u)) 41 (some w) = some (o, n + 4, zTnK K n, I', zTnR (zup (zup R 41 0 (some t)) 41 1 (some u)) n) := by
    unfold f_X1_rewritten
    rw [zbd4_s, X5_new, zbd4_s]
    exact b1
  have eJ : f_X7_builds F zKm J2 RM 89 (nI (97 * r2)) (nI (97 * r3)) (nI 5654) = some (v, J') := by
    unfold f_X7_builds
    rw [r5, zbd_s, c1, zbd_s, ← hJ3]
    exact b2
  have hS3 : ∀ k', zSim k' (zTnK K n) I' (zTnR (zup (zup R 41 0 (some t)) 41 1 (some u)) n) (n + 4) zKm J' RM := fun k' => zSim_build hS2 tK5 tK6 (fun b hb => by rw [b3 b hb, tI3 b hb]) (fun b hb => tR4 b (by omega)) (fun x hx => by rw [b5 x (Or.inl (by omega)), j3 90 (by decide)]) (by rw [b4 89 (by decide) (by decide) (by decide) (by decide), j3 89 (by decide)]) (by rw [b4 91 (by decide) (by decide) (by decide) (by decide), j3 91 (by decide)])
  have k0' : (zTnK K n 0).1 = 16 := by rw [tK5 0 (by omega), hK 0 (by decide)]; rfl
  rw [eC, zbd5_s, if_pos k0', eJ, zbd2_s]
  rcases b6 with ⟨rfl, rfl⟩ | ⟨rfl, rfl, P, p1, p2, p3⟩
  · exact ⟨-3, n + 4, _, I', _, J', rfl, rfl, hS3 k⟩
  · obtain ⟨x, I3, R3, J4, d1, d2, d3⟩ := keep_both hF (hS3 k) hn (Nat.le_refl _) p1 p2 p3 (by decide) (by decide) hr4
    refine ⟨x, n + 4, _, I3, R3, J4, by rw [d1, zbd3_s], ?_, d3⟩
    rw [if_neg (by decide)]
    exact d2
end ZYS
theorem step_apply (F : Nat) (hF : 5000 ≤ F) : zStep_apply F 89 zSim := by
  intro k K I R n KM J RM x1 x2 x3 x4 hS
  have hS0 : zSim k K I R n KM J RM := zSim_scr hS (fun _ _ => rfl)
  obtain ⟨hcf, hRM, rfl, hK, hR, hn⟩ := zSim_ctx hS
  have hR0 : RM 89 0 = some 90 := hRM 89 0 (by decide) (by decide) (by decide)
  have r3 : R 0 3 = some 2 := hR 3 (by decide)
  have r9 : R 0 9 = some 41 := hR 9 (by decide)
  have k42 : (K 41).1 = 11 := by rw [hK 41 (by decide)]; rfl
  have k2 : (K 2).1 = 14 := by rw [hK 2 (by decide)]; rfl
  have k0 : (K 0).1 = 16 := by rw [hK 0 (by decide)]; rfl
  have z10 : ¬ ((1 : Int32) = 0) := by decide
  have eJ : f_X7_apply F zKm J RM 89 x1 x2 x3 x4 = if (0 ≤ x3 ∧ x3 ≤ 7) ∧ (0 ≤ x4 ∧ x4 ≤ 7) then f_X7_apply_23 F zKm RM 89 J x1 x2 x3 x4 (some 89) x1 x2 1 else some (-1, J) := by
    have h22 : f_X7_apply_23 F zKm RM 89 J x1 x2 x3 x4 (some 89) x1 x2 0 = some (-1, J) := rfl
    unfold f_X7_apply f_X7_apply_22
    rw [h22]
    by_cases h3 : 0 ≤ x3 ∧ x3 ≤ 7
    · obtain ⟨a, ha, rfl⟩ := zreg h3
      rw [X7_reg ha, zbd_s, if_neg z10]
      by_cases h4 : 0 ≤ x4 ∧ x4 ≤ 7
      · obtain ⟨b, hb, rfl⟩ := zreg h4
        rw [X7_reg hb, zbd_s, if_neg z10, if_pos ⟨h3, h4⟩]
      · rw [X7_noreg h4, zbd_s, if_pos rfl, if_neg (fun h => h4 h.2)]
    · rw [X7_noreg h3, zbd_s, if_pos rfl, if_neg (fun h => h3 h.1)]
  by_cases h12 : (0 ≤ x1 ∧ x1 ≤ 7) ∧ (0 ≤ x2 ∧ x2 ≤ 7)
  · obtain ⟨r1, hr1, rfl⟩ := zreg h12.1
    obtain ⟨r2, hr2, rfl⟩ := zreg h12.2
    by_cases h34 : (0 ≤ x3 ∧ x3 ≤ 7) ∧ (0 ≤ x4 ∧ x4 ≤ 7)
    · obtain ⟨r3', hr3, rfl⟩ := zreg h34.1
      obtain ⟨r4, hr4, rfl⟩ := zreg h34.2
      have e6 : f_X6_apply F n K I R 0 (nI r1) (nI r2) (nI r3') (nI r4) = zcs (R 3 r1) (some ((-2 : Int32), n, K, I, R)) (fun a32 => zcs (R 3 r2) (some ((-2 : Int32), n, K, I, R)) (fun a34 => zcs (R 3 r3') (some ((-2 : Int32), n, K, I, R)) (fun a36 => zbd3 (f_X1_matches F K I R 41 (some a32) (some a36)) fun v42 I43 R44 => if v42 = (0 : Int32) then some ((-2 : Int32), n, K, I43, R44) else (zbd (some (R44 0 9)) fun o47 => zbd (zdr K o47 11) fun a48 => zbd (f_X1_canFill F K I43 R44 a48 (some a34)) fun v51 => if v51 = (0 : Int32) then some ((-2 : Int32), n, K, I43, R44) else (zbd (some (R44 0 9)) fun o54 => zbd (zdr K o54 11) fun a55 => zbd5 (f_X1_rewritten F n K I43 R44 a55 (some a34)) fun o58 n59 K60 I61 R62 => if (K60 0).1 = 16 then (zbd3 (f_X6_keep F K60 I61 R62 0 o58 (nI r4)) fun v65 I66 R67 => some (v65, n59, K60, I66, R67)) else none))))) := by
        unfold f_X6_apply
        rw [X6_reg hr1, zbd_s, if_pos rfl, X6_reg hr2, zbd_s, if_pos rfl, X6_reg hr3, zbd_s, if_pos rfl, X6_reg hr4, zbd_s, if_pos rfl, if_pos k0, r3, zbd_s, zdr_s k2, zbd_s, X6_term hcf hr1, zbd_s, zbd_s, zdr_s k2, zbd_s, X6_term hcf hr2, zbd_s, zbd_s, zdr_s k2, zbd_s, X6_term hcf hr3, zbd_s]
        simp only [r9, zbd_s, zdr_s k42]
      have e7 : f_X7_apply_23 F zKm RM 89 J (nI r1) (nI r2) (nI r3') (nI r4) (some 89) (nI r1) (nI r2) 1 = (zbd (f_X7_wrong F zKm J RM 89 (nI r1) (nI r2) 1) fun v22 => if v22 = (0 : Int32) then (if J 90 (97 * r3') = 0 then some (-2, J) else f_X7_apply_46 F zKm RM 89 J (nI r1) (nI r2) (nI r3') (nI r4) v22) else f_X7_apply_46 F zKm RM 89 J (nI r1) (nI r2) (nI r3') (nI r4) v22) := by
        unfold f_X7_apply_23
        rw [show zdr zKm (some 89) 17 = some 89 from rfl, zbd_s, X7_isEmpty hR0 hr3]
        by_cases h : J 90 (97 * r3') = 0
        · simp only [zbd_s, if_pos h, if_neg z10]
          rfl
        · simp only [zbd_s, if_neg h, ↓reduceIte]
      have e48 : ∀ x : Int32, x ≠ 0 → f_X7_apply_46 F zKm RM 89 J (nI r1) (nI r2) (nI r3') (nI r4) x = some (x, J) := fun x hx => by
        unfold f_X7_apply_46 f_X7_apply_48
        rw [if_neg hx]
      rw [e6, eJ, if_pos h34, e7]
      rcases zSim_at hS hr1 with ⟨a1, b1⟩ | ⟨t1, T1, a1, b1, -⟩
      · refine ⟨-2, n, K, I, R, J, by rw [a1, zcs_n], ?_, hS0⟩
        rw [X7_wrong2 hR0 hr1 hr2 (Or.inl b1), zbd_s, if_neg (by decide), e48 _ (by decide)]
      rcases zSim_at hS hr2 with ⟨a2, b2⟩ | ⟨t2, T2, a2, b2, -⟩
      · refine ⟨-2, n, K, I, R, J, by rw [a1, zcs_s, a2, zcs_n], ?_, hS0⟩
        rw [X7_wrong2 hR0 hr1 hr2 (Or.inr b2), zbd_s, if_neg (by decide), e48 _ (by decide)]
      rw [X7_wrong0 hR0 hr1 hr2 b1 b2, zbd_s, if_pos rfl]
      rcases zSim_at hS hr3 with ⟨a3, b3⟩ | ⟨t3, T3, a3, b3, -⟩
      · exact ⟨-2, n, K, I, R, J, by rw [a1, zcs_s, a2, zcs_s, a3, zcs_n], by rw [if_pos b3], hS0⟩
      rw [a1, zcs_s, a2, zcs_s, a3, zcs_s, if_neg b3]
      obtain ⟨v, n1, K1, I1, R1, J1, c1, c2, c3⟩ := apply_at (F := F) hF hS0 hr1 hr2 hr3 hr4 a1 a2 a3
      refine ⟨v, n1, K1, I1, R1, J1, c1, ?_, c3⟩
      unfold f_X7_apply_46 f_X7_apply_48
      rw [if_pos rfl, nl97, nI_mul, nI_mul, nI_mul]
      exact c2
    · refine ⟨-1, n, K, I, R, J, ?_, by rw [eJ, if_neg h34], hS0⟩
      unfold f_X6_apply
      rw [X6_reg hr1, zbd_s, if_pos rfl, X6_reg hr2, zbd_s, if_pos rfl]
      by_cases h3 : 0 ≤ x3 ∧ x3 ≤ 7
      · obtain ⟨a, ha, rfl⟩ := zreg h3
        rw [X6_reg ha, zbd_s, if_pos rfl, X6_noreg (fun h => h34 ⟨h3, h⟩), zbd_s, if_neg z10]
      · rw [X6_noreg h3, zbd_s, if_neg z10]
  · refine ⟨-1, n, K, I, R, J, ?_, ?_, hS0⟩
    · unfold f_X6_apply
      by_cases h1 : 0 ≤ x1 ∧ x1 ≤ 7
      · obtain ⟨r, hr, rfl⟩ := zreg h1
        rw [X6_reg hr, zbd_s, if_pos rfl, X6_noreg (fun h2 => h12 ⟨h1, h2⟩), zbd_s, if_neg z10]
      · rw [X6_noreg h1, zbd_s, if_neg z10]
    · rw [eJ]
      by_cases h34 : (0 ≤ x3 ∧ x3 ≤ 7) ∧ (0 ≤ x4 ∧ x4 ≤ 7)
      · rw [if_pos h34]
        unfold f_X7_apply_23
        rw [show zdr zKm (some 89) 17 = some 89 from rfl, zbd_s, X7_wrong1 _ h12, zbd_s, if_neg (by decide)]
        rfl
      · rw [if_neg h34]
