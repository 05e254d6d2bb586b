/-! The step learn -/
section ZLN
variable {F k : Nat} {K : zK} {I : zI} {R : zR} {n : Nat} {J : zI} {RM : zR}
theorem X5_holes {t : Nat} {T : Tm} (hF : 100 ≤ F) (h : zTc K I R t T) (hT : tWF T) : f_X5_holes F K I R t = some (cHl T (tn T)) := by
  have := hT.1.2.1
  unfold f_X5_holes
  exact holes4 h hT (tn T) 0 F (Nat.zero_add _) (by omega)
theorem X7_holesOf {o : Nat} {T : Tm} (hF : 100 ≤ F) (hRM : zRM RM) (ho : o + 97 ≤ 5751) (h : zTm (J 90) o T) (hT : tWF T) : f_X7_holesOf F zKm J RM 89 (nI o) = some (cHl T (tn T)) := by
  have := hT.1.2.1
  unfold f_X7_holesOf
  exact holesOf4 (hRM 89 0 (by decide) (by decide) (by decide)) ho h hT (tn T) 0 F (Nat.zero_add _) (by omega)
/-- both joins of learn(), with one table -/
theorem sim_joined2 (hF : 5000 ≤ F) (hS : zSim k K I R n zKm J RM) {r q r2 q2 t u t2 u2 : Nat} (hr : r < 8) (hq : q < 8) (hr2 : r2 < 8) (hq2 : q2 < 8) (ht : R 3 r = some t) (hu : R 3 q = some u) (ht2 : R 3 r2 = some t2) (hu2 : R 3 q2 = some u2) : ∃ (o : Option Nat) (K' : zK) (I' : zI) (R' : zR) (J' : zI) (v : Int32), f_X0_joined F n K (zBgI I) R 21 (some t) (some u) = some (o, n + 4, K', I', R') ∧ f_X7_joins F zKm (zup J 89 16 0) RM 89 (nI (97 * r)) (nI (97 * q)) (nI 5460) = some (v, J') ∧ (∀ k', zSim k' K' I' R' (n + 4) zKm J' RM) ∧ ((o = none ∧ v = 0) ∨ (o = some n ∧ v = 1 ∧
    ∃ (o2 : Option Nat) (K2 : zK) (I2 : zI) (R2 : zR) (J2 : zI) (v2 : Int32), f_X0_joined F (n + 4) K' I' R' 21 (some t2) (some u2) = some (o2, n + 4 + 4, K2, I2, R2) ∧ f_X7_joins F zKm J' RM 89 (nI (97 * r2)) (nI (97 * q2)) (nI 5557) = some (v2, J2) ∧ (∀ k', zSim k' K2 I2 R2 (n + 4 + 4) zKm J2 RM) ∧ ((o2 = none ∧ v2 = 0) ∨ (o2 = some (n + 4) ∧ v2 = 1 ∧ ∃ P P2, tWF P ∧ tWF P2 ∧ zTc K2 I2 R2 n P ∧ zTm (J2 90) 5460 P ∧ zTc K2 I2 R2 (n + 4) P2 ∧ zTm (J2 90) 5557 P2)))) := by
  obtain ⟨hcf, hRM, -, hK, hR, hn⟩ := zSim_ctx hS
  have hS1 : zSim k K (zBgI I) R n zKm (zup J 89 16 0) RM := zSim_begin hS
  obtain ⟨T, hT⟩ := sim_tr (to := 5460) hS1 (w := (5460, 5654)) hr ht ⟨by decide, by decide, by decide⟩
  obtain ⟨U, hU⟩ := sim_tr (to := 5460) hS1 (w := (5460, 5654)) hq hu ⟨by decide, by decide, by decide⟩
  obtain ⟨f0, f1⟩ := sim_flags hS
  obtain ⟨o, K', I', R', J', v, a1, a2, a3, a4, a5⟩ := joined_both hF hcf hn hRM (Nat.le_refl _) (by decide) hT hU tb_empty f0 f1
  have hS2 : ∀ k', zSim k' K' I' R' (n + 4) zKm J' RM := fun k' => zSim_join hS1 (Nat.le_refl _) a3 a4
  refine ⟨o, K', I', R', J', v, a1, a2, hS2, ?_⟩
  rcases a5 with a5 | ⟨h1, h2, ⟨P, p1, p2, p3⟩, H', hTb⟩
  · exact Or.inl a5
  · have e3 : ∀ j, R' 3 j = R 3 j := fun j => by rw [a3.2.2.2.2.1 3 (by omega) (by decide) (by decide) (by decide)]
    obtain ⟨T2, hT2⟩ := sim_tr (to := 5557) (hS2 k) (w := (5460, 5654)) hr2 ((e3 _).trans ht2) ⟨by decide, by decide, by decide⟩
    obtain ⟨U2, hU2⟩ := sim_tr (to := 5557) (hS2 k) (w := (5460, 5654)) hq2 ((e3 _).trans hu2) ⟨by decide, by decide, by decide⟩
    obtain ⟨hcf', -⟩ := zSim_ctx (hS2 k)
    have g0 : I' 21 0 = if J' 90 776 = 1 then 1 else 0 := by rw [a3.2.2.2.1 0 (by decide), a4.2.2 776 (by decide)]; exact f0
    have g1 : I' 21 1 = if J' 90 777 = 1 then 1 else 0 := by rw [a3.2.2.2.1 1 (by decide), a4.2.2 777 (by decide)]; exact f1
    obtain ⟨o2, K2, I2, R2, J2, v2, b1, b2, b3, b4, b5⟩ := joined_both hF hcf' (show 92 ≤ n + 4 by omega) hRM (to := 5557) (by decide) (by decide) hT2 hU2 (zTb_move hTb (by omega) ⟨by decide, by decide⟩) g0 g1
    refine Or.inr ⟨h1, h2, o2, K2, I2, R2, J2, v2, b1, b2, fun k' => zSim_join (hS2 k') (show 5460 ≤ 5557 by decide) b3 b4, ?_⟩
    rcases b5 with b5 | ⟨i1, i2, ⟨P2, q1, q2, q3⟩, -⟩
    · exact Or.inl b5
    · refine Or.inr ⟨i1, i2, P, P2, p1, q1, ?_, ?_, q2, q3⟩
      · exact zTc_keep p2 (fun b x1 x2 => ⟨b3.1 b x2, b3.2.2.1 b x2 (by omega) (by omega) (by omega) (by omega) (by omega) (by omega), b3.2.2.2.2.1 b x2 (by omega) (by omega) (by omega)⟩)
      · exact zTm_keep p3 (fun q hq => b4.2.2 _ (Or.inl (by omega))) p1.1.2.1
end ZLN
theorem step_learn (F : Nat) (hF : 5000 ≤ F) : zStep_learn F 89 zSim := by
  intro k K I R n KM J RM x1 x2 x3 x4 x5 x6 hS
  have hS0 : zSim k K I R n KM J RM := zSim_scr hS (fun _ _ => rfl)
  obtain ⟨hcf, hRM, rfl, hK, hR, hn⟩ := zSim_ctx hS
  have hR0 : RM 89 0 = some 90 := hRM 89 0 (by decide) (by decide) (by decide)
  have r3 : R 0 3 = some 2 := hR 3 (by decide)
  have r8 : R 0 8 = some 21 := hR 8 (by decide)
  have k22 : (K 21).1 = 10 := by rw [hK 21 (by decide)]; rfl
  have k2 : (K 2).1 = 14 := by rw [hK 2 (by decide)]; rfl
  have k0 : (K 0).1 = 16 := by rw [hK 0 (by decide)]; rfl
  have z10 : ¬ ((1 : Int32) = 0) := by decide
  have bad : (f_X6_learn F n K I R 0 x1 x2 x3 x4 x5 x6 = some (-1, n, K, I, R) ∧ f_X7_learn F zKm J RM 89 x1 x2 x3 x4 x5 x6 = some (-1, J)) → ∃ (r : Int32) (n1 : Nat) (K1 : zK) (I1 : zI) (R1 : zR) (J1 : zI), f_X6_learn F n K I R 0 x1 x2 x3 x4 x5 x6 = some (r, n1, K1, I1, R1) ∧ f_X7_learn F zKm J RM 89 x1 x2 x3 x4 x5 x6 = some (r, J1) ∧ zSim k K1 I1 R1 n1 zKm J1 RM := fun h => ⟨-1, n, K, I, R, J, h.1, h.2, hS0⟩
  by_cases h1 : 0 ≤ x1 ∧ x1 ≤ 7
  · by_cases h2 : 0 ≤ x2 ∧ x2 ≤ 7
    · by_cases h3 : 0 ≤ x3 ∧ x3 ≤ 7
      · by_cases h4 : 0 ≤ x4 ∧ x4 ≤ 7
        · by_cases h5 : 0 ≤ x5 ∧ x5 ≤ 7
          · by_cases h6 : 0 ≤ x6 ∧ x6 ≤ 7
            · obtain ⟨r1, hr1, rfl⟩ := zreg h1
              obtain ⟨r2, hr2, rfl⟩ := zreg h2
              obtain ⟨r3', hr3, rfl⟩ := zreg h3
              obtain ⟨r4, hr4, rfl⟩ := zreg h4
              obtain ⟨r5, hr5, rfl⟩ := zreg h5
              obtain ⟨r6, hr6, rfl⟩ := zreg h6
              by_cases h56 : nI r5 = nI r6
              · refine bad ⟨?_, ?_⟩
                · unfold f_X6_learn
                  rw [X6_reg hr1, zbd_s, if_pos rfl, X6_reg hr2, zbd_s, if_pos rfl, X6_reg hr3, zbd_s, if_pos rfl, X6_reg hr4, zbd_s, if_pos rfl, X6_reg hr5, zbd_s, if_pos rfl, X6_reg hr6, zbd_s, if_pos rfl, if_pos h56]
                · unfold f_X7_learn
                  rw [X7_reg hr1, zbd_s, if_neg z10, X7_reg hr2, zbd_s, if_neg z10, X7_reg hr3, zbd_s, if_neg z10, X7_reg hr4, zbd_s, if_neg z10, X7_reg hr5, zbd_s, if_neg z10, X7_reg hr6, zbd_s, if_neg z10, if_pos h56]
              · have e6 : f_X6_learn F n K I R 0 (nI r1) (nI r2) (nI r3') (nI r4) (nI r5) (nI r6) = zcs (R 3 r1) (some ((-2 : Int32), n, K, I, R)) (fun a45 => zcs (R 3 r2) (some ((-2 : Int32), n, K, I, R)) (fun a47 => zcs (R 3 r3') (some ((-2 : Int32), n, K, I, R)) (fun a49 => zcs (R 3 r4) (some ((-2 : Int32), n, K, I, R)) (fun a51 => zbd5 (f_X0_joined F n K (zBgI I) R 21 (some a45) (some a49)) fun o64 n65 K66 I67 R68 => zcs o64 (some ((-3 : Int32), n65, K66, I67, R68)) fun a70 => if (K66 0).1 = 16 then (zbd (some (R68 0 8)) fun o73 => zbd (zdr K66 o73 10) fun a74 => zbd5 (f_X0_joined F n65 K66 I67 R68 a74 (some a47) (some a51)) fun o77 n78 K79 I80 R81 => zcs o77 (some ((-3 : Int32), n78, K79, I80, R81)) fun a83 => if (K79 0).1 = 16 then (zbd2 (f_X6_remember F K79 I80 R81 0) fun I86 R87 => zbd (some (R87 0 3)) fun o89 => zbd (zdr K79 o89 14) fun a90 => zbd (f_X4_hold F K79 I86 R87 a90 (nI r5) (some a70)) fun R93 => zbd (some (R93 0 3)) fun o95 => zbd (zdr K79 o95 14) fun a96 => zbd (f_X4_hold F K79 I86 R93 a96 (nI r6) (some a83)) fun R99 => if (K79 a83).1 = 15 then (zbd (f_X5_holes F K79 I86 R99 a83) fun v102 => if (K79 a70).1 = 15 then (zbd (f_X5_holes F K79 I86 R99 a70) fun v105 => if (v102 &&& (v105 ^^^ (-1 : Int32))) = (0 : Int32) then some ((1 : Int32), n78, K79, I86, R99) else some ((0 : Int32), n78, K79, I86, R99)) else none) else none) else none) else none)))) := by
                  unfold f_X6_learn
                  rw [X6_reg hr1, zbd_s, if_pos rfl, X6_reg hr2, zbd_s, if_pos rfl, X6_reg hr3, zbd_s, if_pos rfl, X6_reg hr4, zbd_s, if_pos rfl, X6_reg hr5, zbd_s, if_pos rfl, X6_reg hr6, zbd_s, if_pos rfl, if_neg h56, if_pos k0, r3, zbd_s, zdr_s k2, zbd_s, X6_term hcf hr1, zbd_s, zbd_s, zdr_s k2, zbd_s, X6_term hcf hr2, zbd_s, zbd_s, zdr_s k2, zbd_s, X6_term hcf hr3, zbd_s, zbd_s, zdr_s k2, zbd_s, X6_term hcf hr4, zbd_s]
                  simp only [r8, zbd_s, zdr_s k22, X0_begin hcf]
                have e7 : f_X7_learn F zKm J RM 89 (nI r1) (nI r2) (nI r3') (nI r4) (nI r5) (nI r6) = if J 90 (97 * r1) = 0 then some (-2, J) else if J 90 (97 * r2) = 0 then some (-2, J) else if J 90 (97 * r3') = 0 then some (-2, J) else if J 90 (97 * r4) = 0 then some (-2, J) else (zbd2 (f_X7_joins F zKm (zup J 89 16 0) RM 89 (nI (97 * r1)) (nI (97 * r3')) (nI 5460)) fun v33 I34 => if v33 = (0 : Int32) then some ((-3 : Int32), I34) else (zbd2 (f_X7_joins F zKm I34 RM 89 (nI (97 * r2)) (nI (97 * r4)) (nI 5557)) fun v37 I38 => if v37 = (0 : Int32) then some ((-3 : Int32), I38) else (zbd (f_X7_records F zKm I38 RM 89) fun I41 => zbd2 (f_X7_puts F zKm I41 RM 89 (nI 5460) (nI r5)) fun v43 I44 => zbd2 (f_X7_puts F zKm I44 RM 89 (nI 5557) (nI r6)) fun v46 I47 => zbd (f_X7_holesOf F zKm I47 RM 89 (nI 5557)) fun v49 => zbd (f_X7_holesOf F zKm I47 RM 89 (nI 5460)) fun v51 => if (v49 &&& (v51 ^^^ (-1 : Int32))) = (0 : Int32) then some ((1 : Int32), I47) else some ((0 : Int32), I47)))) := by
                  unfold f_X7_learn
                  rw [X7_reg hr1, zbd_s, if_neg z10, X7_reg hr2, zbd_s, if_neg z10, X7_reg hr3, zbd_s, if_neg z10, X7_reg hr4, zbd_s, if_neg z10, X7_reg hr5, zbd_s, if_neg z10, X7_reg hr6, zbd_s, if_neg z10, if_neg h56, X7_isEmpty hR0 hr1, zbd_s, X7_isEmpty hR0 hr2, zbd_s, X7_isEmpty hR0 hr3, zbd_s, X7_isEmpty hR0 hr4, zbd_s]
                  by_cases q1 : J 90 (97 * r1) = 0
                  · rw [if_pos q1, if_pos q1, if_neg z10]
                  rw [if_neg q1, if_neg q1, if_pos rfl]
                  by_cases q2 : J 90 (97 * r2) = 0
                  · rw [if_pos q2, if_pos q2, if_neg z10]
                  rw [if_neg q2, if_neg q2, if_pos rfl]
                  by_cases q3 : J 90 (97 * r3') = 0
                  · rw [if_pos q3, if_pos q3, if_neg z10]
                  rw [if_neg q3, if_neg q3, if_pos rfl]
                  by_cases q4 : J 90 (97 * r4) = 0
                  · rw [if_pos q4, if_pos q4, if_neg z10]
                  rw [if_neg q4, if_neg q4, if_pos rfl]
                  simp only [zbd_s, nl97, nI_mul]
                  rfl
                rw [e6, e7]
                rcases zSim_at hS hr1 with ⟨a1, b1⟩ | ⟨t1, T1, a1, b1, -⟩
                · exact ⟨-2, n, K, I, R, J, by rw [a1, zcs_n], by rw [if_pos b1], hS0⟩
                rw [a1, zcs_s, if_neg b1]
                rcases zSim_at hS hr2 with ⟨a2, b2⟩ | ⟨t2, T2, a2, b2, -⟩
                · exact ⟨-2, n, K, I, R, J, by rw [a2, zcs_n], by rw [if_pos b2], hS0⟩
                rw [a2, zcs_s, if_neg b2]
                rcases zSim_at hS hr3 with ⟨a3, b3⟩ | ⟨t3, T3, a3, b3, -⟩
                · exact ⟨-2, n, K, I, R, J, by rw [a3, zcs_n], by rw [if_pos b3], hS0⟩
                rw [a3, zcs_s, if_neg b3]
                rcases zSim_at hS hr4 with ⟨a4, b4⟩ | ⟨t4, T4, a4, b4, -⟩
                · exact ⟨-2, n, K, I, R, J, by rw [a4, zcs_n], by rw [if_pos b4], hS0⟩
                rw [a4, zcs_s, if_neg b4]
                obtain ⟨o, K', I', R', J', v, c1, c2, c3, c4⟩ := sim_joined2 (F := F) hF hS hr1 hr3 hr2 hr4 a1 a3 a2 a4
                rw [c2, zbd2_s, c1, zbd5_s]
                rcases c4 with ⟨rfl, rfl⟩ | ⟨rfl, rfl, o2, K2, I2, R2, J2, v2, d1, d2, d3, d4⟩
                · exact ⟨-3, n + 4, K', I', R', J', rfl, rfl, c3 k⟩
                obtain ⟨-, -, -, hK', hR', -⟩ := zSim_ctx (c3 k)
                rw [if_neg z10, d2, zbd2_s, zcs_s, if_pos (show (K' 0).1 = 16 by rw [hK' 0 (by decide)]; rfl), hR' 8 (by decide), zbd_s, show zRt 0 8 = some 21 from rfl, zdr_s (show (K' 21).1 = 10 by rw [hK' 21 (by decide)]; rfl), zbd_s, d1, zbd5_s]
                rcases d4 with ⟨rfl, rfl⟩ | ⟨rfl, rfl, P, P2, p1, p2, p3, p4, p5, p6⟩
                · exact ⟨-3, n + 4 + 4, K2, I2, R2, J2, rfl, rfl, d3 k⟩
                obtain ⟨I3, R3, J3, s, g1, g2, g3, g4, g5, g6, g7, g8, g9, g10⟩ := zRem hF (d3 k)
                have hs : s < 87 := by unfold zHa at g4; omega
                obtain ⟨-, -, -, hK2, hR2, -⟩ := zSim_ctx (d3 k)
                obtain ⟨-, -, -, -, hR3, -⟩ := zSim_ctx g3
                have m1 : zTc K2 I3 R3 n P := zTc_row p3 hn (fun b hb => g5 b (by omega) (by omega)) (fun b hb => g7 b (by omega) (by omega))
                have m2 : zTc K2 I3 R3 (n + 4) P2 := zTc_row p5 (by omega) (fun b hb => g5 b (by omega) (by omega)) (fun b hb => g7 b (by omega) (by omega))
                have m3 : zTm (J3 90) 5460 P := zTm_keep p4 (fun q _ => g10 _ (by omega)) p1.1.2.1
                have m4 : zTm (J3 90) 5557 P2 := zTm_keep p6 (fun q _ => g10 _ (by omega)) p2.1.2.1
                obtain ⟨w1, w2, w3⟩ := reg_both (k' := k) hF g3 hn (show n + 4 ≤ n + 4 + 4 by omega) p1 m1 m3 (Nat.le_refl _) (by decide) hr5
                have m5 : zTc K2 I3 (zup R3 3 r5 (some n)) (n + 4) P2 := zTc_row m2 (by omega) (fun _ _ => rfl) (fun b hb => zup_ne _ _ _ (by omega))
                have m6 : zTm (zCp J3 5460 (97 * r5) 97 90) 5557 P2 := zTm_keep m4 (fun q _ => by unfold zCp; rw [if_neg (by omega)]) p2.1.2.1
                obtain ⟨y1, y2, y3⟩ := reg_both (k' := k) hF w3 (show 92 ≤ n + 4 by omega) (Nat.le_refl _) p2 m5 m6 (by decide) (by decide) hr6
                have m7 : zTc K2 I3 (zup (zup R3 3 r5 (some n)) 3 r6 (some (n + 4))) (n + 4) P2 := zTc_row m5 (by omega) (fun _ _ => rfl) (fun b hb => zup_ne _ _ _ (by omega))
                have m8 : zTc K2 I3 (zup (zup R3 3 r5 (some n)) 3 r6 (some (n + 4))) n P := zTc_row m1 hn (fun _ _ => rfl) (fun b hb => by rw [zup_ne _ _ _ (by omega), zup_ne _ _ _ (by omega)])
                have m9 : zTm (zCp (zCp J3 5460 (97 * r5) 97) 5557 (97 * r6) 97 90) 5557 P2 := zTm_keep m6 (fun q _ => by show zCp (zCp J3 5460 (97 * r5) 97) 5557 (97 * r6) 97 90 _ = _; unfold zCp; rw [if_neg (by omega)]) p2.1.2.1
                have m10 : zTm (zCp (zCp J3 5460 (97 * r5) 97) 5557 (97 * r6) 97 90) 5460 P := zTm_keep m3 (fun q _ => by unfold zCp; rw [if_neg (by omega), if_neg (by omega)]) p1.1.2.1
                have q3 : (zup R3 3 r5 (some n)) 0 3 = some 2 := by rw [zup_nb _ _ _ (by decide)]; exact hR3 3 (by decide)
                have kk2 : (K2 2).1 = 14 := by rw [hK2 2 (by decide)]; rfl
                refine ⟨if (cHl P2 (tn P2) &&& (cHl P (tn P) ^^^ (-1 : Int32))) = (0 : Int32) then 1 else 0, n + 4 + 4, K2, I3, _, _, ?_, ?_, y3⟩
                · rw [zcs_s, if_pos (show (K2 0).1 = 16 by rw [hK2 0 (by decide)]; rfl), g1, zbd2_s, show R3 0 3 = some 2 from hR3 3 (by decide), zbd_s, zdr_s kk2, zbd_s, w1, zbd_s, q3, zbd_s, zdr_s kk2, zbd_s, y1, zbd_s, if_pos (by rw [m7.1]), X5_holes (by omega) m7 p2, zbd_s, if_pos (by rw [m8.1]), X5_holes (by omega) m8 p1, zbd_s]
                  by_cases hh : (cHl P2 (tn P2) &&& (cHl P (tn P) ^^^ (-1 : Int32))) = (0 : Int32)
                  · rw [if_pos hh, if_pos hh]
                  · rw [if_neg hh, if_neg hh]
                · rw [if_neg z10, g2, zbd_s, w2, zbd2_s, y2, zbd2_s, X7_holesOf (by omega) hRM (by decide) m9 p2, zbd_s, X7_holesOf (by omega) hRM (by decide) m10 p1, zbd_s]
                  by_cases hh : (cHl P2 (tn P2) &&& (cHl P (tn P) ^^^ (-1 : Int32))) = (0 : Int32)
                  · rw [if_pos hh, if_pos hh]
                  · rw [if_neg hh, if_neg hh]
            · obtain ⟨r1, hr1, rfl⟩ := zreg h1
              obtain ⟨r2, hr2, rfl⟩ := zreg h2
              obtain ⟨r3', hr3, rfl⟩ := zreg h3
              obtain ⟨r4, hr4, rfl⟩ := zreg h4
              obtain ⟨r5, hr5, rfl⟩ := zreg h5
              refine bad ⟨?_, ?_⟩
              · unfold f_X6_learn
                rw [X6_reg hr1, zbd_s, if_pos rfl, X6_reg hr2, zbd_s, if_pos rfl, X6_reg hr3, zbd_s, if_pos rfl, X6_reg hr4, zbd_s, if_pos rfl, X6_reg hr5, zbd_s, if_pos rfl, X6_noreg h6, zbd_s, if_neg z10]
              · unfold f_X7_learn
                rw [X7_reg hr1, zbd_s, if_neg z10, X7_reg hr2, zbd_s, if_neg z10, X7_reg hr3, zbd_s, if_neg z10, X7_reg hr4, zbd_s, if_neg z10, X7_reg hr5, zbd_s, if_neg z10, X7_noreg h6, zbd_s, if_pos rfl]
          · obtain ⟨r1, hr1, rfl⟩ := zreg h1
            obtain ⟨r2, hr2, rfl⟩ := zreg h2
            obtain ⟨r3', hr3, rfl⟩ := zreg h3
            obtain ⟨r4, hr4, rfl⟩ := zreg h4
            refine bad ⟨?_, ?_⟩
            · unfold f_X6_learn
              rw [X6_reg hr1, zbd_s, if_pos rfl, X6_reg hr2, zbd_s, if_pos rfl, X6_reg hr3, zbd_s, if_pos rfl, X6_reg hr4, zbd_s, if_pos rfl, X6_noreg h5, zbd_s, if_neg z10]
            · unfold f_X7_learn
              rw [X7_reg hr1, zbd_s, if_neg z10, X7_reg hr2, zbd_s, if_neg z10, X7_reg hr3, zbd_s, if_neg z10, X7_reg hr4, zbd_s, if_neg z10, X7_noreg h5, zbd_s, if_pos rfl]
        · obtain ⟨r1, hr1, rfl⟩ := zreg h1
          obtain ⟨r2, hr2, rfl⟩ := zreg h2
          obtain ⟨r3', hr3, rfl⟩ := zreg h3
          refine bad ⟨?_, ?_⟩
          · unfold f_X6_learn
            rw [X6_reg hr1, zbd_s, if_pos rfl, X6_reg hr2, zbd_s, if_pos rfl, X6_reg hr3, zbd_s, if_pos rfl, X6_noreg h4, zbd_s, if_neg z10]
          · unfold f_X7_learn
            rw [X7_reg hr1, zbd_s, if_neg z10, X7_reg hr2, zbd_s, if_neg z10, X7_reg hr3, zbd_s, if_neg z10, X7_noreg h4, zbd_s, if_pos rfl]
      · obtain ⟨r1, hr1, rfl⟩ := zreg h1
        obtain ⟨r2, hr2, rfl⟩ := zreg h2
        refine bad ⟨?_, ?_⟩
        · unfold f_X6_learn
          rw [X6_reg hr1, zbd_s, if_pos rfl, X6_reg hr2, zbd_s, if_pos rfl, X6_noreg h3, zbd_s, if_neg z10]
        · unfold f_X7_learn
          rw [X7_reg hr1, zbd_s, if_neg z10, X7_reg hr2, zbd_s, if_neg z10, X7_noreg h3, zbd_s, if_pos rfl]
    · obtain ⟨r1, hr1, rfl⟩ := zreg h1
      refine bad ⟨?_, ?_⟩
      · unfold f_X6_learn
        rw [X6_reg hr1, zbd_s, if_pos rfl, X6_noreg h2, zbd_s, if_neg z10]
      · unfold f_X7_learn
        rw [X7_reg hr1, zbd_s, if_neg z10, X7_noreg h2, zbd_s, if_pos rfl]
  · refine bad ⟨?_, ?_⟩
    · unfold f_X6_learn
      rw [X6_noreg h1, zbd_s, if_neg z10]
    · unfold f_X7_learn
      rw [X7_noreg h1, zbd_s, if_pos rfl]
