/-! The steps join and origin -/
section ZJS
variable {F k : Nat} {K : zK} {I : zI} {R : zR} {n : Nat} {J : zI} {RM : zR}
/-- two registers joined into MADE, from the beginning on -/
theorem sim_joined (hF : 5000 ≤ F) (hS : zSim k K I R n zKm J RM) {r q t u : Nat} (hr : r < 8) (hq : q < 8) (ht : R 3 r = some t) (hu : R 3 q = some u) : ∃ (o : Option Nat) (K' : zK) (I' : zI) (R' : zR) (J' : zI) (v : Int32), f_X0_joined F n K (zBgI I) R 21 (some t) (some u) = some (o, n + 4, K', I', R') ∧ f_X7_joins F zKm (zup J 89 16 0) RM 89 (nI (97 * r)) (nI (97 * q)) (nI 5460) = some (v, J') ∧ (∀ k', zSim k' K' I' R' (n + 4) zKm J' RM) ∧ (∀ j, R' 3 j = R 3 j) ∧ ((o = none ∧ v = 0) ∨ (o = some n ∧ v = 1 ∧ (∃ P, tWF P ∧ zTc K' I' R' n P ∧ zTm (J' 90) 5460 P) ∧ ∃ H', zTb K' I' R' J' n (5460, 5557) 5460 H')) := by
  obtain ⟨hcf, hRM, -, hK, hR, hn⟩ := zSim_ctx hS
  have hS1 : zSim k K (zBgI I) R n zKm (zup J 89 16 0) RM := zSim_begin hS
  obtain ⟨T, hT⟩ := sim_tr (to := 5460) hS1 (w := (5460, 5557)) hr ht ⟨by decide, by decide, by decide⟩
  obtain ⟨U, hU⟩ := sim_tr (to := 5460) hS1 (w := (5460, 5557)) hq hu ⟨by decide, by decide, by decide⟩
  obtain ⟨f0, f1⟩ := sim_flags hS
  obtain ⟨o, K', I', R', J', v, a1, a2, a3, a4, a5⟩ := joined_both hF hcf hn hRM (Nat.le_refl _) (by decide) hT hU tb_empty f0 f1
  exact ⟨o, K', I', R', J', v, a1, a2, fun k' => zSim_join hS1 (Nat.le_refl _) a3 a4, fun j => by rw [a3.2.2.2.2.1 3 (by omega) (by decide) (by decide) (by decide)], a5⟩
theorem step_join (F : Nat) (hF : 5000 ≤ F) : zStep_join F 89 zSim := by
  intro k K I R n KM J RM x1 x2 x3 hS
  have hS0 : zSim k K I R n KM J RM := zSim_scr hS (fun _ _ => rfl)
  obtain ⟨hcf, hRM, rfl, hK, hR, hn⟩ := zSim_ctx hS
  have hR0 : RM 89 0 = some 90 := hRM 89 0 (by decide) (by decide) (by decide)
  have r3 : R 0 3 = some 2 := hR 3 (by decide)
  have r8 : R 0 8 = some 21 := hR 8 (by decide)
  have k22 : (K 21).1 = 10 := by rw [hK 21 (by decide)]; rfl
  have k2 : (K 2).1 = 14 := by rw [hK 2 (by decide)]; rfl
  have k0 : (K 0).1 = 16 := by rw [hK 0 (by decide)]; rfl
  by_cases h12 : (0 ≤ x1 ∧ x1 ≤ 7) ∧ (0 ≤ x2 ∧ x2 ≤ 7)
  · obtain ⟨r, hr, rfl⟩ := zreg h12.1
    obtain ⟨q, hq, rfl⟩ := zreg h12.2
    by_cases h3 : 0 ≤ x3 ∧ x3 ≤ 7
    · obtain ⟨o3, ho3, rfl⟩ := zreg h3
      have e6 : f_X6_join F n K I R 0 (nI r) (nI q) (nI o3) = zcs (R 3 r) (some ((-2 : Int32), n, K, I, R)) (fun a23 => zcs (R 3 q) (some ((-2 : Int32), n, K, I, R)) (fun a25 => zbd5 (f_X0_joined F n K (zBgI I) R 21 (some a23) (some a25)) fun o38 n39 K40 I41 R42 => if (K40 0).1 = 16 then zbd3 (f_X6_keep F K40 I41 R42 0 o38 (nI o3)) fun v45 I46 R47 => some (v45, n39, K40, I46, R47) else none)) := by
        unfold f_X6_join
        rw [X6_reg hr, zbd_s, if_pos rfl, X6_reg hq, zbd_s, if_pos rfl, X6_reg ho3, zbd_s, if_pos rfl, if_pos k0, r3, zbd_s, zdr_s k2, zbd_s, X6_term hcf hr, zbd_s, zbd_s, zdr_s k2, zbd_s, X6_term hcf hq, zbd_s]
        simp only [r8, zbd_s, zdr_s k22, X0_begin hcf]
      have e7 : f_X7_join F zKm J RM 89 (nI r) (nI q) (nI o3) = (zbd (f_X7_wrong F zKm J RM 89 (nI r) (nI q) 1) fun v3 => if v3 = (0 : Int32) then (zbd2 (f_X7_joins F zKm (zup J 89 16 0) RM 89 (nI (97 * r)) (nI (97 * q)) (nI 5460)) fun v7 I8 => if v7 = (0 : Int32) then some ((-3 : Int32), I8) else (zbd (f_X7_records F zKm I8 RM 89) fun I11 => zbd2 (f_X7_puts F zKm I11 RM 89 (nI 5460) (nI o3)) fun v13 I14 => some (v13, I14))) else some (v3, J)) := by
        unfold f_X7_join
        rw [X7_reg ho3, zbd_s]
        simp only [zbd_s, nl97, nI_mul]
        rfl
      rw [e6, e7]
      rcases zSim_at hS hr with ⟨hx, hz⟩ | ⟨t, T, hx, hz, -⟩
      · refine ⟨-2, n, K, I, R, J, by rw [hx, zcs_n], ?_, hS0⟩
        rw [X7_wrong2 hR0 hr hq (Or.inl hz), zbd_s, if_neg (by decide)]
      · rcases zSim_at hS hq with ⟨hx', hz'⟩ | ⟨u, U, hx', hz', -⟩
        · refine ⟨-2, n, K, I, R, J, by rw [hx, zcs_s, hx', zcs_n], ?_, hS0⟩
          rw [X7_wrong2 hR0 hr hq (Or.inr hz'), zbd_s, if_neg (by decide)]
        · obtain ⟨o, K', I', R', J', v, a1, a2, a3, -, a4⟩ := sim_joined (F := F) hF hS hr hq hx hx'
          have k0' : (K' 0).1 = 16 := by rw [(zSim_ctx (a3 k)).2.2.2.1 0 (by decide)]; rfl
          rw [hx, zcs_s, hx', zcs_s, a1, zbd5_s, if_pos k0', X7_wrong0 hR0 hr hq hz hz', zbd_s, if_pos rfl, a2, zbd2_s]
          rcases a4 with ⟨rfl, rfl⟩ | ⟨rfl, rfl, ⟨P, p1, p2, p3⟩, -⟩
          · exact ⟨-3, n + 4, K', I', R', J', rfl, rfl, a3 k⟩
          · obtain ⟨w, I3, R3, J3, b1, b2, b3⟩ := keep_both hF (a3 k) hn (Nat.le_refl _) p1 p2 p3 (Nat.le_refl _) (by decide) ho3
            refine ⟨w, n + 4, K', I3, R3, J3, ?_, ?_, b3⟩
            · rw [b1, zbd3_s]
            · rw [if_neg (by decide)]; exact b2
    · refine ⟨-1, n, K, I, R, J, ?_, ?_, hS0⟩
      · unfold f_X6_join
        rw [X6_reg hr, zbd_s, if_pos rfl, X6_reg hq, zbd_s, if_pos rfl, X6_noreg h3, zbd_s, if_neg (by decide)]
      · unfold f_X7_join
        rw [X7_noreg h3, zbd_s, X7_wrongF, zbd_s, if_neg (by decide)]
  · refine ⟨-1, n, K, I, R, J, ?_, ?_, hS0⟩
    · unfold f_X6_join
      by_cases h1 : 0 ≤ x1 ∧ x1 ≤ 7
      · obtain ⟨r, hr, rfl⟩ := zreg h1
        rw [X6_reg hr, zbd_s, if_pos rfl, X6_noreg (fun h2 => h12 ⟨h1, h2⟩), zbd_s, if_neg (by decide)]
      · rw [X6_noreg h1, zbd_s, if_neg (by decide)]
    · unfold f_X7_join
      by_cases h3 : 0 ≤ x3 ∧ x3 ≤ 7
      · obtain ⟨o3, ho3, rfl⟩ := zreg h3
        rw [X7_reg ho3, zbd_s, X7_wrong1 _ h12, zbd_s, if_neg (by decide)]
      · rw [X7_noreg h3, zbd_s, X7_wrongF, zbd_s, if_neg (by decide)]
/-- what a hole stands for -/
theorem meaning_both (hcf : zCf K R) (hRM : zRM RM) {p to H h w : Nat} {W : Nat × Nat} (hTb : zTb K I R J p W to H) (hh : h < 10) (hw : w ≤ 3) : ∃ v, f_X0_meaning F K I R 21 (nI h) (nI w) = some v ∧ (if J 89 16 ≤ nI h then some ((-9 : Int32), J) else (zbd (f_X7_originOf F zKm J RM 89 (nI h) (nI w)) fun v13 => some (v13, J))) = some (v, J) := by
  obtain ⟨hH, hI5, hJ16, hE⟩ := hTb
  have k37 : K 36 = (1, 10) := hcf.1 36 (by decide)
  have k38 : K 37 = (1, 10) := hcf.1 37 (by decide)
  have k40 : K 39 = (1, 10) := hcf.1 39 (by decide)
  have k41 : K 40 = (1, 10) := hcf.1 40 (by decide)
  have hR : ∀ k, 6 ≤ k → k < 13 → R 21 k = zRt 21 k := fun k h1 h2 => hcf.2 21 k (by unfold zFin; omega)
  have r8 : R 21 8 = some 36 := hR 8 (by decide) (by decide)
  have r9 : R 21 9 = some 37 := hR 9 (by decide) (by decide)
  have r11 : R 21 11 = some 39 := hR 11 (by decide) (by decide)
  have r12 : R 21 12 = some 40 := hR 12 (by decide) (by decide)
  have q19 : RM 89 19 = some 102 := hRM 89 19 (by decide) (by decide) (by decide)
  have q20 : RM 89 20 = some 103 := hRM 89 20 (by decide) (by decide) (by decide)
  have q22 : RM 89 22 = some 105 := hRM 89 22 (by decide) (by decide) (by decide)
  have q23 : RM 89 23 = some 106 := hRM 89 23 (by decide) (by decide) (by decide)
  have eC : f_X0_meaning F K I R 21 (nI h) (nI w) = if nI h < nI H then (if nI w = 0 then (if I 37 h = (0 : Int32) then some (-9 : Int32) else some (I 36 h)) else if nI w = 1 then some (I 37 h) else if nI w = 2 then (if I 40 h = (0 : Int32) then some (-9 : Int32) else some (I 39 h)) else some (I 40 h)) else some (-9 : Int32) := by
    unfold f_X0_meaning
    rw [zo_0 (show (0 : Int32) ≤ nI h ∧ nI h ≤ 9 from ⟨nI_pos' (by omega), nI_le (b := 9) (by omega) (by decide)⟩), zbd_s, if_pos rfl, hI5]
    simp only [r8, r9, r11, r12, zbd_s, zdr_s (show (K 36).1 = 1 by rw [k37]), zdr_s (show (K 37).1 = 1 by rw [k38]), zdr_s (show (K 39).1 = 1 by rw [k40]), zdr_s (show (K 40).1 = 1 by rw [k41]), zrd_s (K := K) (I := I) (a := 36) (j := h) (by rw [k37]; exact hh) (by rw [k37]; decide), zrd_s (K := K) (I := I) (a := 37) (j := h) (by rw [k38]; exact hh) (by rw [k38]; decide), zrd_s (K := K) (I := I) (a := 39) (j := h) (by rw [k40]; exact hh) (by rw [k40]; decide), zrd_s (K := K) (I := I) (a := 40) (j := h) (by rw [k41]; exact hh) (by rw [k41]; decide)]
  rw [eC, hJ16]
  by_cases hlt : h < H
  · obtain ⟨s', i', c', j', e', t1, o1, t2, o2, T1, T2, hs', ⟨f1, g1⟩, ⟨f2, g2⟩, ⟨f3, g3⟩, ⟨f4, g4⟩, ⟨f5, g5⟩, ⟨f6, g6⟩, ⟨f7, g7⟩, -⟩ := hE h hlt
    rw [if_pos (nI_lt hlt (by omega)), if_neg (nI_ge hlt (by omega)), f3, f4, f6, f7]
    have z103 : zrd zKm J 102 (nI h) = some (nI i') := by rw [zrd_s hh (by decide), g3]
    have z104 : zrd zKm J 103 (nI h) = some (nI c') := by rw [zrd_s hh (by decide), g4]
    have z106 : zrd zKm J 105 (nI h) = some (nI j') := by rw [zrd_s hh (by decide), g6]
    have z107 : zrd zKm J 106 (nI h) = some (nI e') := by rw [zrd_s hh (by decide), g7]
    have hw4 : w = 0 ∨ w = 1 ∨ w = 2 ∨ w = 3 := by omega
    unfold f_X7_originOf f_X7_originOf_20 f_X7_originOf_41
    simp only [q19, q20, q22, q23, zbd_s, show zdr zKm (some 102) 1 = some 102 from rfl, show zdr zKm (some 103) 1 = some 103 from rfl, show zdr zKm (some 105) 1 = some 105 from rfl, show zdr zKm (some 106) 1 = some 106 from rfl, z103, z104, z106, z107]
    rcases hw4 with rfl | rfl | rfl | rfl
    · show ∃ v, (if nI c' = (0 : Int32) then some (-9 : Int32) else some (nI i')) = some v ∧ (zbd (if nI c' = (0 : Int32) then some (-9 : Int32) else some (nI i')) fun v13 => some (v13, J)) = some (v, J)
      by_cases hc : nI c' = (0 : Int32)
      · rw [if_pos hc]; exact ⟨-9, rfl, rfl⟩
      · rw [if_neg hc]; exact ⟨nI i', rfl, rfl⟩
    · exact ⟨nI c', rfl, rfl⟩
    · show ∃ v, (if nI e' = (0 : Int32) then some (-9 : Int32) else some (nI j')) = some v ∧ (zbd (if nI e' = (0 : Int32) then some (-9 : Int32) else some (nI j')) fun v13 => some (v13, J)) = some (v, J)
      by_cases hc : nI e' = (0 : Int32)
      · rw [if_pos hc]; exact ⟨-9, rfl, rfl⟩
      · rw [if_neg hc]; exact ⟨nI j', rfl, rfl⟩
    · exact ⟨nI e', rfl, rfl⟩
  · rw [if_neg (nI_nlt (by omega) (by omega)), if_pos (nI_le (by omega) (by omega))]
    exact ⟨-9, rfl, rfl⟩
theorem step_origin (F : Nat) (hF : 5000 ≤ F) : zStep_origin F 89 zSim := by
  intro k K I R n KM J RM x1 x2 x3 x4 hS
  have hS0 : zSim k K I R n KM J RM := zSim_scr hS (fun _ _ => rfl)
  obtain ⟨hcf, hRM, rfl, hK, hR, hn⟩ := zSim_ctx hS
  have hR0 : RM 89 0 = some 90 := hRM 89 0 (by decide) (by decide) (by decide)
  have r3 : R 0 3 = some 2 := hR 3 (by decide)
  have r8 : R 0 8 = some 21 := hR 8 (by decide)
  have k22 : (K 21).1 = 10 := by rw [hK 21 (by decide)]; rfl
  have k2 : (K 2).1 = 14 := by rw [hK 2 (by decide)]; rfl
  have k0 : (K 0).1 = 16 := by rw [hK 0 (by decide)]; rfl
  have eJ : f_X7_origin F zKm J RM 89 x1 x2 x3 x4 = if (0 ≤ x3 ∧ x3 ≤ 9) ∧ (0 ≤ x4 ∧ x4 ≤ 3) then f_X7_origin_28 F zKm RM 89 J x1 x2 x3 x4 (some 89) x1 x2 1 else some (-1, J) := by
    have h27 : f_X7_origin_28 F zKm RM 89 J x1 x2 x3 x4 (some 89) x1 x2 0 = some (-1, J) := rfl
    unfold f_X7_origin f_X7_origin_27
    rw [h27, zi_eq, zbd_s, zi_eq, zbd_s]
    by_cases h3 : 0 ≤ x3 ∧ x3 ≤ 9
    · rw [if_pos h3, if_neg (by decide)]
      by_cases h4 : 0 ≤ x4 ∧ x4 ≤ 3
      · rw [if_pos h4, if_neg (by decide), if_pos ⟨h3, h4⟩]
      · rw [if_neg h4, if_pos rfl, if_neg (fun h => h4 h.2)]
    · rw [if_neg h3, if_pos rfl, if_neg (fun h => h3 h.1)]
  by_cases h12 : (0 ≤ x1 ∧ x1 ≤ 7) ∧ (0 ≤ x2 ∧ x2 ≤ 7)
  · obtain ⟨r, hr, rfl⟩ := zreg h12.1
    obtain ⟨q, hq, rfl⟩ := zreg h12.2
    by_cases h34 : (0 ≤ x3 ∧ x3 ≤ 9) ∧ (0 ≤ x4 ∧ x4 ≤ 3)
    · obtain ⟨h, hh, rfl⟩ := zrange (n := 9) (by decide) h34.1
      obtain ⟨w, hw, rfl⟩ := zrange (n := 3) (by decide) h34.2
      have e6 : f_X6_origin F n K I R 0 (nI r) (nI q) (nI h) (nI w) = zcs (R 3 r) (some ((-2 : Int32), n, K, I, R)) (fun a26 => zcs (R 3 q) (some ((-2 : Int32), n, K, I, R)) (fun a28 => zbd5 (f_X0_joined F n K (zBgI I) R 21 (some a26) (some a28)) fun o41 n42 K43 I44 R45 => zcs o41 (some ((-3 : Int32), n42, K43, I44, R45)) fun a47 => if (K43 0).1 = 16 then (zbd (some (R45 0 8)) fun o50 => zbd (zdr K43 o50 10) fun a51 => zbd (f_X0_meaning F K43 I44 R45 a51 (nI h) (nI w)) fun v54 => some (v54, n42, K43, I44, R45)) else none)) := by
        unfold f_X6_origin
        rw [X6_reg hr, zbd_s, if_pos rfl, X6_reg hq, zbd_s, if_pos rfl, zo_0 h34.1, zbd_s, if_pos rfl, zo_0 h34.2, zbd_s, if_pos rfl, if_pos k0, r3, zbd_s, zdr_s k2, zbd_s, X6_term hcf hr, zbd_s, zbd_s, zdr_s k2, zbd_s, X6_term hcf hq, zbd_s]
        simp only [r8, zbd_s, zdr_s k22, X0_begin hcf]
      have e7 : f_X7_origin_28 F zKm RM 89 J (nI r) (nI q) (nI h) (nI w) (some 89) (nI r) (nI q) 1 = (zbd (f_X7_wrong F zKm J RM 89 (nI r) (nI q) 1) fun v4 => if v4 = (0 : Int32) then (zbd2 (f_X7_joins F zKm (zup J 89 16 0) RM 89 (nI (97 * r)) (nI (97 * q)) (nI 5460)) fun v8 I9 => if v8 = (0 : Int32) then some ((-3 : Int32), I9) else (if (I9 89 16) ≤ nI h then some ((-9 : Int32), I9) else (zbd (f_X7_originOf F zKm I9 RM 89 (nI h) (nI w)) fun v13 => some (v13, I9)))) else some (v4, J)) := by
        unfold f_X7_origin_28
        rw [show zdr zKm (some 89) 17 = some 89 from rfl, zbd_s]
        simp only [zbd_s, nl97, nI_mul]
        rfl
      rw [e6, eJ, if_pos h34, e7]
      rcases zSim_at hS hr with ⟨hx, hz⟩ | ⟨t, T, hx, hz, -⟩
      · refine ⟨-2, n, K, I, R, J, by rw [hx, zcs_n], ?_, hS0⟩
        rw [X7_wrong2 hR0 hr hq (Or.inl hz), zbd_s, if_neg (by decide)]
      · rcases zSim_at hS hq with ⟨hx', hz'⟩ | ⟨u, U, hx', hz', -⟩
        · refine ⟨-2, n, K, I, R, J, by rw [hx, zcs_s, hx', zcs_n], ?_, hS0⟩
          rw [X7_wrong2 hR0 hr hq (Or.inr hz'), zbd_s, if_neg (by decide)]
        · obtain ⟨o, K', I', R', J', v, a1, a2, a3, -, a4⟩ := sim_joined (F := F) hF hS hr hq hx hx'
          obtain ⟨hcf', -, -, hK', hR', -⟩ := zSim_ctx (a3 k)
          have k0' : (K' 0).1 = 16 := by rw [hK' 0 (by decide)]; rfl
          have k22' : (K' 21).1 = 10 := by rw [hK' 21 (by decide)]; rfl
          rw [X7_wrong0 hR0 hr hq hz hz', zbd_s, if_pos rfl, a2, zbd2_s, hx, zcs_s, hx', zcs_s, a1, zbd5_s]
          rcases a4 with ⟨rfl, rfl⟩ | ⟨rfl, rfl, -, H', hTb⟩
          · exact ⟨-3, n + 4, K', I', R', J', rfl, rfl, a3 k⟩
          · obtain ⟨w', b1, b2⟩ := meaning_both (F := F) hcf' hRM hTb (show h < 10 by omega) hw
            refine ⟨w', n + 4, K', I', R', J', ?_, ?_, a3 k⟩
            · rw [zcs_s, if_pos k0', hR' 8 (by decide), zbd_s, show zRt 0 8 = some 21 from rfl, zdr_s k22', zbd_s, b1, zbd_s]
            · rw [if_neg (by decide)]; exact b2
    · refine ⟨-1, n, K, I, R, J, ?_, by rw [eJ, if_neg h34], hS0⟩
      unfold f_X6_origin
      rw [X6_reg hr, zbd_s, if_pos rfl, X6_reg hq, zbd_s, if_pos rfl, zo_eq, zbd_s, zo_eq, zbd_s]
      by_cases h3 : 0 ≤ x3 ∧ x3 ≤ 9
      · rw [if_pos h3, if_pos rfl, if_neg (fun h => h34 ⟨h3, h⟩), if_neg (by decide)]
      · rw [if_neg h3, if_neg (by decide)]
  · refine ⟨-1, n, K, I, R, J, ?_, ?_, hS0⟩
    · unfold f_X6_origin
      by_cases h1 : 0 ≤ x1 ∧ x1 ≤ 7
      · obtain ⟨r, hr, rfl⟩ := zreg h1
        rw [X6_reg hr, zbd_s, if_pos rfl, X6_noreg (fun h2 => h12 ⟨h1, h2⟩), zbd_s, if_neg (by decide)]
      · rw [X6_noreg h1, zbd_s, if_neg (by decide)]
    · rw [eJ]
      by_cases h34 : (0 ≤ x3 ∧ x3 ≤ 9) ∧ (0 ≤ x4 ∧ x4 ≤ 3)
      · rw [if_pos h34]
        unfold f_X7_origin_28
        rw [show zdr zKm (some 89) 17 = some 89 from rfl, zbd_s, X7_wrong1 _ h12, zbd_s, if_neg (by decide)]
      · rw [if_neg h34]
end ZJS
