/-! STEP node -/
def zval (T : Tm) (i : Nat) (x : Int32) : Int32 := nI (if x = 0 then ts T i else if x = 1 then tg T i else if x = 2 then tr T i else if x = 3 then tdp T i else tsp T i)
theorem tWF_r {T : Tm} (h : tWF T) : ∀ i, i < tn T → tr T i ≤ 32 := fun i hi => by have := (h.2.1 i hi).2.1; omega
theorem X7_nodeOf {F : Nat} {J : zI} {RM : zR} {r i : Nat} {T : Tm} (hF : 100 ≤ F) (hR0 : RM 89 0 = some 90) (hR5 : RM 89 5 = some 92) (hR7 : RM 89 7 = some 94) (hR8 : RM 89 8 = some 95) (hr : r < 58) (hT : tWF T) (h : zTm (J 90) (97 * r) T) (hi : i < tn T) (x : Int32) :
    ∃ J', f_X7_nodeOf F zKm J RM 89 (nI r) (nI i) x = some (zval T i x, J') ∧ ∀ b, b ≠ 92 → b ≠ 94 → b ≠ 95 → J' b = J b := by
  have hn := hT.1.2.1
  obtain ⟨J', e1, e2, e3⟩ := X7_levels (F := F) hF hR0 hR5 hR7 hR8 (show 97 * r + 97 ≤ 5751 by omega) hT.1 (tWF_r hT) h
  have h' : zTm (J' 90) (97 * r) T := by rw [e2 90 (by decide) (by decide) (by decide)]; exact h
  have K95 : zKm 94 = (1, 32) := rfl
  have K93 : zKm 92 = (1, 32) := rfl
  refine ⟨J', ?_, e2⟩
  unfold f_X7_nodeOf zval
  rw [show (97 : Int32) = nI 97 from rfl, nI_mul, e1, zbd_s]
  by_cases h0 : x = 0
  · rw [if_pos h0, if_pos h0, X7_sort hR0 (by omega) h' hn hi, zbd_s]
  rw [if_neg h0, if_neg h0]
  by_cases h1 : x = 1
  · rw [if_pos h1, if_pos h1, X7_number hR0 (by omega) h' hn hi, zbd_s]
  rw [if_neg h1, if_neg h1]
  by_cases h2 : x = 2
  · rw [if_pos h2, if_pos h2, X7_arguments hR0 (by omega) h' hn hi, zbd_s]
  rw [if_neg h2, if_neg h2]
  by_cases h3 : x = 3
  · rw [if_pos h3, if_pos h3, hR7, zbd_s, zdr_s (t := 1) (by rw [K95]), zbd_s, zrd_s (by rw [K95]; show i < 32; omega) (by rw [K95]; decide), zbd_s, (e3 i hi).2]
  · rw [if_neg h3, if_neg h3, hR5, zbd_s, zdr_s (t := 1) (by rw [K93]), zbd_s, zrd_s (by rw [K93]; show i < 32; omega) (by rw [K93]; decide), zbd_s, (e3 i hi).1]
/-- the reference's scratch rows do not matter -/
theorem zSim_scr {k k' : Nat} {K : zK} {I : zI} {R : zR} {n : Nat} {KM : zK} {J J' : zI} {RM : zR} (h : zSim k K I R n KM J RM) (hJ : ∀ b, b = 89 ∨ b = 90 ∨ b = 91 → J' b = J b) : zSim k' K I R n KM J' RM := by
  obtain ⟨b, hb, hb1, hb2, htx⟩ := h.2.1
  refine zSim_keep h (Nat.le_refl _) (fun _ _ => rfl) h.1.2.2.2.1 (fun _ _ _ => ⟨rfl, rfl⟩) (fun _ _ _ => rfl) (fun _ _ _ _ => rfl) (fun _ _ _ _ => rfl) (fun _ _ => rfl) rfl (fun q _ => by rw [hJ 90 (by omega)]) (by rw [hJ 89 (by omega)]) ⟨b, hb, hb1, by rw [hJ 89 (by omega)]; exact hb2, fun i hi => by rw [hJ 91 (by omega)]; exact htx i hi⟩ (by rw [hJ 89 (by omega)]; exact h.2.2.1)
/-- one register of both sides: nothing in it, or the same term -/
theorem zSim_at {k : Nat} {K : zK} {I : zI} {R : zR} {n : Nat} {KM : zK} {J : zI} {RM : zR} (hS : zSim k K I R n KM J RM) {r : Nat} (hr : r < 8) : (R 3 r = none ∧ J 90 (97 * r) = 0) ∨ ∃ t T, R 3 r = some t ∧ ¬ J 90 (97 * r) = 0 ∧ 92 ≤ t ∧ t + 4 ≤ n ∧ tWF T ∧ zTc K I R t T ∧ zTm (J 90) (97 * r) T := by
  obtain ⟨-, -, -, hst, -⟩ := hS
  have hrg := hst.1 r hr
  rw [Nat.zero_add] at hrg
  have hnone := zRg_none hrg
  cases hx : R (2 + 1) r with
  | none => exact Or.inl ⟨rfl, hnone.mp hx⟩
  | some t =>
    have hz : ¬ J 90 (97 * r) = 0 := fun e => by rw [hnone.mpr e] at hx; cases hx
    rw [hx] at hrg
    obtain ⟨ht1, ht2, T, hT, hTc, hTm⟩ := hrg
    exact Or.inr ⟨t, T, rfl, hz, ht1, ht2, hT, hTc, hTm⟩
theorem X6_nodeOf {F : Nat} {K : zK} {I : zI} {R : zR} {t i : Nat} {T : Tm} (h : zTc K I R t T) (hT : tWF T) (hi : i < tn T) (x : Int32) : (if x = 0 then zbd (f_X5_sortOf F K I R t (nI i)) fun v => some v else if x = 1 then zbd (f_X5_numberOf F K I R t (nI i)) fun v => some v else if x = 2 then zbd (f_X5_argumentsOf F K I R t (nI i)) fun v => some v else if x = 3 then zbd (f_X5_depthOf F K I R t (nI i)) fun v => some v else zbd (f_X5_spanOf F K I R t (nI i)) fun v => some v) = some (zval T i x) := by
  unfold zval
  rw [X5_sortOf h hT hi, X5_numberOf h hT hi, X5_argumentsOf h hT hi, X5_depthOf h hT hi, X5_spanOf h hT hi]
  simp only [zbd_s]
  by_cases h0 : x = 0
  · rw [if_pos h0, if_pos h0]
  rw [if_neg h0, if_neg h0]
  by_cases h1 : x = 1
  · rw [if_pos h1, if_pos h1]
  rw [if_neg h1, if_neg h1]
  by_cases h2 : x = 2
  · rw [if_pos h2, if_pos h2]
  rw [if_neg h2, if_neg h2]
  by_cases h3 : x = 3
  · rw [if_pos h3, if_pos h3]
  · rw [if_neg h3, if_neg h3]
theorem step_node (F : Nat) (hF : 5000 ≤ F) : zStep_node F 89 zSim := by
  intro k K I R n KM J RM x1 x2 x3 hS
  have hS0 : zSim k K I R n KM J RM := zSim_scr hS (fun _ _ => rfl)
  have hcf := zSim_cf hS
  obtain ⟨k0, k5, r3, r4⟩ := zK_fix hcf
  have hat := fun r (hr : r < 8) => zSim_at hS hr
  obtain ⟨⟨hn, hK, hK2, hK3, hR, hKM, hRM⟩, -⟩ := hS
  have hR0 : RM 89 0 = some 90 := hRM 89 0 (by decide) (by decide) (by decide)
  have hR5 : RM 89 5 = some 92 := hRM 89 5 (by decide) (by decide) (by decide)
  have hR7 : RM 89 7 = some 94 := hRM 89 7 (by decide) (by decide) (by decide)
  have hR8 : RM 89 8 = some 95 := hRM 89 8 (by decide) (by decide) (by decide)
  by_cases h1 : 0 ≤ x1 ∧ x1 ≤ 7
  · obtain ⟨r, hr, rfl⟩ := zreg h1
    by_cases h2 : x2 < 0
    · refine ⟨-1, J, ?_, ?_, hS0⟩
      · unfold f_X6_node
        rw [X6_reg hr, zbd_s, if_pos rfl, if_pos h2]
      · unfold f_X7_node
        rw [X7_reg hr, zbd_s, if_neg (by decide), if_pos h2]
    by_cases h3 : 0 ≤ x3 ∧ x3 ≤ 4
    · have e6 : f_X6_node F K I R 0 (nI r) x2 x3 = zcs (R (2 + 1) r) (some (-2)) (fun a14 => if (K a14).1 = 15 then if x2 < I a14 3 then (if x3 = 0 then zbd (f_X5_sortOf F K I R a14 x2) fun v => some v else if x3 = 1 then zbd (f_X5_numberOf F K I R a14 x2) fun v => some v else if x3 = 2 then zbd (f_X5_argumentsOf F K I R a14 x2) fun v => some v else if x3 = 3 then zbd (f_X5_depthOf F K I R a14 x2) fun v => some v else zbd (f_X5_spanOf F K I R a14 x2) fun v => some v) else some (-9) else none) := by
        unfold f_X6_node
        rw [X6_reg hr, zbd_s, if_pos rfl, if_neg h2, zo_0 h3, zbd_s, if_pos rfl, r3, zbd_s, zdr_s (t := 14) (by rw [hK 2 (by decide)]; rfl), zbd_s, X4_term hcf (Or.inl rfl) hr, zbd_s]
      rw [e6]
      rcases hat r hr with ⟨hx, hz⟩ | ⟨t, T, hx, hz, ht1, ht2, hT, hTc, hTm⟩
      · refine ⟨-2, J, by rw [show R (2 + 1) r = none from hx, zcs_n], ?_, hS0⟩
        unfold f_X7_node
        rw [X7_reg hr, zbd_s, if_neg (by decide), if_neg h2, zi_1 h3, zbd_s, if_neg (by decide), hKM, X7_isEmpty hR0 hr, if_pos hz, zbd_s, if_neg (by decide)]
      · have hn32 := hT.1.2.1
        have e7 : f_X7_node F KM J RM 89 (nI r) x2 x3 = if nI (tn T) ≤ x2 then some (-9, J) else zbd2 (f_X7_nodeOf F zKm J RM 89 (nI r) x2 x3) fun v17 I18 => some (v17, I18) := by
          unfold f_X7_node
          rw [X7_reg hr, zbd_s, if_neg (by decide), if_neg h2, zi_1 h3, zbd_s, if_neg (by decide), hKM, X7_isEmpty hR0 hr, if_neg hz, zbd_s, if_pos rfl, hR0, zbd_s, zd91, zbd_s, show (97 : Int32) = nI 97 from rfl, nI_mul, zrd_s (by rw [zKm91]; show 97 * r < 5751; omega) (by decide), zbd_s, hTm.1]
        rw [e7, show R (2 + 1) r = some t from hx, zcs_s, if_pos (by rw [hTc.1]), hTc.2.2.2.2.2.2.2.1]
        by_cases h4 : x2 < nI (tn T)
        · obtain ⟨i, hi, rfl⟩ : ∃ i, i < tn T ∧ x2 = nI i := by
            obtain ⟨i, hi, hx⟩ := nI_of2 (n := tn T) (M := nI (tn T)) (nI_toInt (by omega)) h2 (Int32.le_of_lt h4)
            refine ⟨i, ?_, hx⟩
            rcases Nat.lt_or_ge i (tn T) with h5 | h5
            · exact h5
            · rw [hx, show i = tn T by omega] at h4
              exact (Int32.lt_irrefl h4).elim
          obtain ⟨J', g1, g2⟩ := X7_nodeOf (F := F) (by omega) hR0 hR5 hR7 hR8 (show r < 58 by omega) hT hTm hi x3
          refine ⟨zval T i x3, J', ?_, ?_, zSim_scr hS0 (fun b hb => g2 b (by omega) (by omega) (by omega))⟩
          · rw [if_pos h4]
            exact X6_nodeOf hTc hT hi x3
          · rw [if_neg (nI_ge hi (by omega)), g1, zbd2_s]
        · exact ⟨-9, J, by rw [if_neg h4], by rw [if_pos (Int32.not_lt.mp h4)], hS0⟩
    · refine ⟨-1, J, ?_, ?_, hS0⟩
      · unfold f_X6_node
        rw [X6_reg hr, zbd_s, if_pos rfl, if_neg h2, zo_1 h3, zbd_s, if_neg (by decide)]
      · unfold f_X7_node
        rw [X7_reg hr, zbd_s, if_neg (by decide), if_neg h2, zi_0 h3, zbd_s, if_pos rfl]
  · refine ⟨-1, J, ?_, ?_, hS0⟩
    · unfold f_X6_node
      rw [X6_noreg h1, zbd_s, if_neg (by decide)]
    · unfold f_X7_node
      rw [X7_noreg h1, zbd_s, if_pos rfl]
