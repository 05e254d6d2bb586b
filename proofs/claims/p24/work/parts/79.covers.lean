/-! The steps that only match: covers, filled, compare, covered  -/
section ZS1
variable {F : Nat} {k k' : Nat} {K : zK} {I I1 : zI} {R R1 : zR} {n : Nat} {KM : zK} {J J1 : zI} {RM : zR} {m r q t u : Nat}
theorem zSim_ctx (hS : zSim k K I R n KM J RM) : zCf K R ∧ zRM RM ∧ KM = zKm ∧ (∀ a, a < 89 → K a = zKt a) ∧ (∀ j, j < 12 → R 0 j = zRt 0 j) ∧ 92 ≤ n := ⟨zSim_cf hS, hS.1.2.2.2.2.2.2, hS.1.2.2.2.2.2.1, hS.1.2.1, fun j hj => hS.1.2.2.2.2.1 0 j (by unfold zFin; omega), hS.1.1⟩
/-- the reference's scratch does not matter, fields and rows -/
theorem zSim_scr2 (h : zSim k K I R n KM J RM) (h91 : ∀ q, q < 5460 → J1 90 q = J 90 q) (h92 : J1 91 = J 91) (h90 : ∀ q, q = 1 ∨ q = 3 ∨ q = 4 → J1 89 q = J 89 q) : zSim k' K I R n KM J1 RM := by
  obtain ⟨b, hb, hb1, hb2, htx⟩ := h.2.1
  exact zSim_keep h (Nat.le_refl _) (fun _ _ => rfl) h.1.2.2.2.1 (fun _ _ _ => ⟨rfl, rfl⟩) (fun _ _ _ => rfl) (fun _ _ _ _ => rfl) (fun _ _ _ _ => rfl) (fun _ _ => rfl) rfl h91 (h90 1 (by omega)) ⟨b, hb, hb1, by rw [h90 3 (by omega)]; exact hb2, fun i hi => by rw [h92]; exact htx i hi⟩ (by rw [h90 4 (by omega)]; exact h.2.2.1)
/-- what both matchers do keeps zSim -/
theorem zSim_match (hm : m = 41 ∨ m = 56) (h : zSim k K I R n KM J RM) (h1 : zFrC m I I1) (h2 : ∀ b j, ¬ (b = m ∧ j < 2) → R1 b j = R b j) (h3 : zFrM J J1) : zSim k' K I1 R1 n KM J1 RM := by
  obtain ⟨b, hb, hb1, hb2, htx⟩ := h.2.1
  refine zSim_keep h (Nat.le_refl _) (fun _ _ => rfl) h.1.2.2.2.1 (fun c c1 c2 => ⟨h1 c (by omega), ?_⟩) (fun a j hf => h2 a j (by unfold zFin at hf; omega)) (fun a ha r hr => h2 _ _ (by unfold zHs zHa at ha; omega)) (fun a ha j hj => by rw [h1 _ (by unfold zHs zHa at ha; omega)]) (fun j hj => h2 _ _ (by omega)) (by rw [h1 0 (by omega)]) (fun q _ => by rw [h3.1 90 (by omega) (by omega) (by omega) (by omega)]) (h3.2 1 (by omega)) ⟨b, hb, by rw [h1 0 (by omega)]; exact hb1, by rw [h3.2 3 (by omega)]; exact hb2, fun i hi => by rw [h1 1 (by omega), h3.1 91 (by omega) (by omega) (by omega) (by omega)]; exact htx i hi⟩ (by rw [h1 0 (by omega), h3.2 4 (by omega)]; exact h.2.2.1)
  funext j
  exact h2 c j (by omega)
theorem sim_match (hF : 200 ≤ F) (hS : zSim k K I R n KM J RM) (hm : m = 41 ∨ m = 56) (hr : r < 8) (hq : q < 8) (h1 : R 3 r = some t) (h2 : R 3 q = some u) : ∃ (v : Int32) (I1 J1 : zI) (T U : Tm), (v = 0 ∨ v = 1) ∧ f_X1_matches F K I R m (some t) (some u) = some (v, I1, zup (zup R m 0 (some t)) m 1 (some u)) ∧ f_X7_matches F zKm J RM 89 (nI (97 * r)) (nI (97 * q)) = some (v, J1) ∧ (∀ k', zSim k' K I1 (zup (zup R m 0 (some t)) m 1 (some u)) n KM J1 RM) ∧ zFrC m I I1 ∧ zFrM J J1 ∧ (tWF T ∧ tWF U ∧ zTc K I R t T ∧ zTc K I R u U ∧ zTm (J 90) (97 * r) T ∧ zTm (J 90) (97 * q) U ∧ 92 ≤ t ∧ 92 ≤ u) ∧ (v = 1 → zFl T U I1 J1 m (tn T) ∧ (∀ y, y < tn T → J1 92 y = nI (tsp T y)) ∧ ∀ y, y < tn U → J1 93 y = nI (tsp U y)) := by
  obtain ⟨hcf, hRM, -⟩ := zSim_ctx hS
  rcases zSim_at hS hr with ⟨e, -⟩ | ⟨t', T, e, -, ht1, -, hT, hTc, hTm⟩
  · rw [h1] at e; cases e
  · rcases zSim_at hS hq with ⟨e', -⟩ | ⟨u', U, e', -, hu1, -, hU, hUc, hUm⟩
    · rw [h2] at e'; cases e'
    · rw [h1] at e; cases e
      rw [h2] at e'; cases e'
      obtain ⟨v, I1, J1, hv, p1, p2, p3, p4, p5⟩ := match_both (F := F) (J := J) hF (zMk_of hcf hm) hRM ht1 hu1 (show 97 * r + 97 ≤ 5751 by omega) (show 97 * q + 97 ≤ 5751 by omega) hT hU hTc hUc hTm hUm
      exact ⟨v, I1, J1, T, U, hv, p1, p2, fun k' => zSim_match hm hS p3 (fun b j hb => by unfold zup; rw [if_neg (by omega), if_neg (by omega)]) p4, p3, p4, ⟨hT, hU, hTc, hUc, hTm, hUm, ht1, hu1⟩, p5⟩
theorem X6_term (hcf : zCf K R) (hr : r < 8) : f_X4_term F K I R 2 (nI r) = some (R 3 r) := X4_term hcf (Or.inl rfl) hr
end ZS1
theorem step_covers (F : Nat) (hF : 5000 ≤ F) : zStep_covers F 89 zSim := by
  intro k K I R n KM J RM x1 x2 hS
  have hS0 : zSim k K I R n KM J RM := zSim_scr hS (fun _ _ => rfl)
  obtain ⟨hcf, hRM, rfl, hK, hR, hn⟩ := zSim_ctx hS
  have hR0 : RM 89 0 = some 90 := hRM 89 0 (by decide) (by decide) (by decide)
  have r3 : R 0 3 = some 2 := hR 3 (by decide)
  have r9 : R 0 9 = some 41 := hR 9 (by decide)
  have k42 : K 41 = (11, 0) := hK 41 (by decide)
  have k2 : K 2 = (14, 0) := hK 2 (by decide)
  by_cases h12 : (0 ≤ x1 ∧ x1 ≤ 7) ∧ (0 ≤ x2 ∧ x2 ≤ 7)
  · obtain ⟨r, hr, rfl⟩ := zreg h12.1
    obtain ⟨q, hq, rfl⟩ := zreg h12.2
    have e6 : f_X6_covers F K I R 0 (nI r) (nI q) = zcs (R 3 r) (some ((-2 : Int32), I, R)) (fun a19 => zcs (R 3 q) (some ((-2 : Int32), I, R)) (fun a21 => zbd3 (f_X1_matches F K I R 41 (some a19) (some a21)) fun v27 I28 R29 => if v27 = (0 : Int32) then some ((0 : Int32), I28, R29) else some ((1 : Int32), I28, R29))) := by
      unfold f_X6_covers
      rw [X6_reg hr, zbd_s, if_pos rfl, X6_reg hq, zbd_s, if_pos rfl, r3, zbd_s, zdr_s (t := 14) (by rw [k2]), zbd_s, X6_term hcf hr, zbd_s, zbd_s, zdr_s (t := 14) (by rw [k2]), zbd_s, X6_term hcf hq, zbd_s]
      simp only [r9, zbd_s, zdr_s (show (K 41).1 = 11 by rw [k42])]
    rw [e6]
    rcases zSim_at hS hr with ⟨hx, hz⟩ | ⟨t, T, hx, hz, -⟩
    · refine ⟨-2, I, R, J, by rw [hx, zcs_n], ?_, hS0⟩
      unfold f_X7_covers
      rw [X7_wrong2 hR0 hr hq (Or.inl hz), zbd_s, if_neg (by decide)]
    · rcases zSim_at hS hq with ⟨hx', hz'⟩ | ⟨u, U, hx', hz', -⟩
      · refine ⟨-2, I, R, J, by rw [hx, zcs_s, hx', zcs_n], ?_, hS0⟩
        unfold f_X7_covers
        rw [X7_wrong2 hR0 hr hq (Or.inr hz'), zbd_s, if_neg (by decide)]
      · obtain ⟨v, I1, J1, T, U, hv, m1, m2, hS1, -⟩ := sim_match (F := F) (by omega) hS (Or.inl rfl) hr hq hx hx'
        refine ⟨v, I1, _, J1, ?_, ?_, hS1 k⟩
        · rw [hx, zcs_s, hx', zcs_s, m1, zbd3_s]
          rcases hv with rfl | rfl
          · rw [if_pos rfl]
          · rw [if_neg (by decide)]
        · unfold f_X7_covers
          rw [X7_wrong0 hR0 hr hq hz hz', zbd_s, if_pos rfl, nl97, nI_mul, nI_mul, m2, zbd2_s]
          rcases hv with rfl | rfl
          · rw [if_pos rfl]
          · rw [if_neg (by decide)]
  · refine ⟨-1, I, R, J, ?_, ?_, hS0⟩
    · unfold f_X6_covers
      by_cases h1 : 0 ≤ x1 ∧ x1 ≤ 7
      · obtain ⟨r, hr, rfl⟩ := zreg h1
        rw [X6_reg hr, zbd_s, if_pos rfl, X6_noreg (fun h2 => h12 ⟨h1, h2⟩), zbd_s, if_neg (by decide)]
      · rw [X6_noreg h1, zbd_s, if_neg (by decide)]
    · unfold f_X7_covers
      rw [X7_wrong1 _ h12, zbd_s, if_neg (by decide)]
theorem step_compare (F : Nat) (hF : 5000 ≤ F) : zStep_compare F 89 zSim := by
  intro k K I R n KM J RM x1 x2 hS
  have hS0 : zSim k K I R n KM J RM := zSim_scr hS (fun _ _ => rfl)
  obtain ⟨hcf, hRM, rfl, hK, hR, hn⟩ := zSim_ctx hS
  have hR0 : RM 89 0 = some 90 := hRM 89 0 (by decide) (by decide) (by decide)
  have r3 : R 0 3 = some 2 := hR 3 (by decide)
  have r9 : R 0 9 = some 41 := hR 9 (by decide)
  have k42 : K 41 = (11, 0) := hK 41 (by decide)
  have k2 : K 2 = (14, 0) := hK 2 (by decide)
  by_cases h12 : (0 ≤ x1 ∧ x1 ≤ 7) ∧ (0 ≤ x2 ∧ x2 ≤ 7)
  · obtain ⟨r, hr, rfl⟩ := zreg h12.1
    obtain ⟨q, hq, rfl⟩ := zreg h12.2
    have e6 : f_X6_compare F K I R 0 (nI r) (nI q) = zcs (R 3 r) (some ((-2 : Int32), I, R)) (fun a19 => zcs (R 3 q) (some ((-2 : Int32), I, R)) (fun a21 => zbd3 (f_X1_matches F K I R 41 (some a19) (some a21)) fun v27 I28 R29 => zbd (some (R29 0 9)) fun o31 => zbd (zdr K o31 11) fun a32 => zbd3 (f_X1_matches F K I28 R29 a32 (some a21) (some a19)) fun v35 I36 R37 => if v27 = (0 : Int32) then if v35 = (0 : Int32) then some ((3 : Int32), I36, R37) else some ((2 : Int32), I36, R37) else if v35 = (0 : Int32) then some ((1 : Int32), I36, R37) else some ((0 : Int32), I36, R37))) := by
      unfold f_X6_compare
      rw [X6_reg hr, zbd_s, if_pos rfl, X6_reg hq, zbd_s, if_pos rfl, r3, zbd_s, zdr_s (t := 14) (by rw [k2]), zbd_s, X6_term hcf hr, zbd_s, zbd_s, zdr_s (t := 14) (by rw [k2]), zbd_s, X6_term hcf hq, zbd_s]
      simp only [r9, zbd_s, zdr_s (show (K 41).1 = 11 by rw [k42])]
    rw [e6]
    rcases zSim_at hS hr with ⟨hx, hz⟩ | ⟨t, T, hx, hz, -⟩
    · refine ⟨-2, I, R, J, by rw [hx, zcs_n], ?_, hS0⟩
      unfold f_X7_compare
      rw [X7_wrong2 hR0 hr hq (Or.inl hz), zbd_s, if_neg (by decide)]
    · rcases zSim_at hS hq with ⟨hx', hz'⟩ | ⟨u, U, hx', hz', -⟩
      · refine ⟨-2, I, R, J, by rw [hx, zcs_s, hx', zcs_n], ?_, hS0⟩
        unfold f_X7_compare
        rw [X7_wrong2 hR0 hr hq (Or.inr hz'), zbd_s, if_neg (by decide)]
      · obtain ⟨v, I1, J1, T, U, hv, m1, m2, hS1, -⟩ := sim_match (F := F) (by omega) hS (Or.inl rfl) hr hq hx hx'
        have g9 : zup (zup R 41 0 (some t)) 41 1 (some u) 0 9 = some 41 := by rw [zup_nb _ _ _ (by decide), zup_nb _ _ _ (by decide)]; exact r9
        have g3 : ∀ r, zup (zup R 41 0 (some t)) 41 1 (some u) 3 r = R 3 r := fun r => by rw [zup_nb _ _ _ (by decide), zup_nb _ _ _ (by decide)]
        obtain ⟨w, I2, J2, T', U', hw, o1, o2, hS2, -⟩ := sim_match (F := F) (by omega) (hS1 k) (Or.inl rfl) hq hr ((g3 q).trans hx') ((g3 r).trans hx)
        refine ⟨if v = 0 then (if w = 0 then 3 else 2) else (if w = 0 then 1 else 0), I2, _, J2, ?_, ?_, hS2 k⟩
        · rw [hx, zcs_s, hx', zcs_s, m1, zbd3_s, g9, zbd_s, zdr_s (show (K 41).1 = 11 by rw [k42]), zbd_s, o1, zbd3_s]
          rcases hv with rfl | rfl <;> rcases hw with rfl | rfl <;> rfl
        · unfold f_X7_compare
          rw [X7_wrong0 hR0 hr hq hz hz', zbd_s, if_pos rfl, nl97, nI_mul, nI_mul, m2, zbd2_s, o2, zbd2_s]
          rcases hv with rfl | rfl <;> rcases hw with rfl | rfl <;> rfl
  · refine ⟨-1, I, R, J, ?_, ?_, hS0⟩
    · unfold f_X6_compare
      by_cases h1 : 0 ≤ x1 ∧ x1 ≤ 7
      · obtain ⟨r, hr, rfl⟩ := zreg h1
        rw [X6_reg hr, zbd_s, if_pos rfl, X6_noreg (fun h2 => h12 ⟨h1, h2⟩), zbd_s, if_neg (by decide)]
      · rw [X6_noreg h1, zbd_s, if_neg (by decide)]
    · unfold f_X7_compare
      rw [X7_wrong1 _ h12, zbd_s, if_neg (by decide)]
section ZS2
variable {F : Nat} {K : zK} {RM : zR} {n p t : Nat}
theorem covered_both (hF : 200 ≤ F) (hp : p < 8) : ∀ (d x k f f' : Nat) (I : zI) (R : zR) (J : zI) (s : Int32), zSim k K I R n zKm J RM → R 3 p = some t → x + d = 8 → d < f → d < f' → ∃ (v : Int32) (I1 : zI) (R1 : zR) (J1 : zI), f_X6_covered_30 F K 0 f I R (some t) s (nI x) = some (v, I1, R1) ∧ f_X7_coveredBy_4 F zKm RM 89 f' J (nI p) s (nI x) = some (v, J1) ∧ zSim k K I1 R1 n zKm J1 RM ∧ R1 3 = R 3 ∧ ∀ b, b < 41 → I1 b = I b := by
  intro d
  induction d with
  | zero =>
    intro x k f f' I R J s hS ht hx hf hf'
    obtain ⟨f, rfl⟩ : ∃ g, f = g + 1 := ⟨f - 1, by omega⟩
    obtain ⟨f', rfl⟩ : ∃ g, f' = g + 1 := ⟨f' - 1, by omega⟩
    obtain rfl : x = 8 := by omega
    exact ⟨s, I, R, J, rfl, rfl, hS, rfl, fun _ _ => rfl⟩
  | succ d ih =>
    intro x k f f' I R J s hS ht hx hf hf'
    obtain ⟨f, rfl⟩ : ∃ g, f = g + 1 := ⟨f - 1, by omega⟩
    obtain ⟨f', rfl⟩ : ∃ g, f' = g + 1 := ⟨f' - 1, by omega⟩
    obtain ⟨hcf, hRM, -, hK, hR, hn⟩ := zSim_ctx hS
    have hR0 : RM 89 0 = some 90 := hRM 89 0 (by decide) (by decide) (by decide)
    have r3 : R 0 3 = some 2 := hR 3 (by decide)
    have r9 : R 0 9 = some 41 := hR 9 (by decide)
    have k42 : K 41 = (11, 0) := hK 41 (by decide)
    have k2 : K 2 = (14, 0) := hK 2 (by decide)
    have hx8 : x < 8 := by omega
    have n8 : ¬ ((8 : Int32) ≤ nI x) := nI_ge (b := 8) (by omega) (by omega)
    have e6 : f_X6_covered_30 F K 0 (f + 1) I R (some t) s (nI x) = zcs (R 3 x) (f_X6_covered_30 F K 0 f I R (some t) s (nI (x + 1))) (fun a8 => zbd3 (f_X1_matches F K I R 41 (some t) (some a8)) fun v14 I15 R16 => if v14 = (0 : Int32) then f_X6_covered_30 F K 0 f I15 R16 (some t) s (nI (x + 1)) else f_X6_covered_30 F K 0 f I15 R16 (some t) (s ||| ((1 : Int32) <<< (nI x &&& 31))) (nI (x + 1))) := by
      show g_X6_covered_30 F K 0 _ I R (some t) s (nI x) = _
      unfold g_X6_covered_30 f_X6_covered_73
      rw [if_neg n8, r3, zbd_s, zdr_s (t := 14) (by rw [k2]), zbd_s, X6_term hcf hx8, zbd_s]
      simp only [r9, zbd_s, zdr_s (show (K 41).1 = 11 by rw [k42]), nI_1]
    have e7 : f_X7_coveredBy_4 F zKm RM 89 (f' + 1) J (nI p) s (nI x) = if J 90 (97 * x) = 0 then f_X7_coveredBy_4 F zKm RM 89 f' J (nI p) s (nI (x + 1)) else (zbd2 (f_X7_matches F zKm J RM 89 (nI (97 * p)) (nI (97 * x))) fun v6 I7 => if v6 = (0 : Int32) then f_X7_coveredBy_4 F zKm RM 89 f' I7 (nI p) s (nI (x + 1)) else f_X7_coveredBy_4 F zKm RM 89 f' I7 (nI p) (s ||| ((1 : Int32) <<< (nI x &&& 31))) (nI (x + 1))) := by
      show g_X7_coveredBy_4 F zKm RM 89 _ J (nI p) s (nI x) = _
      unfold g_X7_coveredBy_4 f_X7_coveredBy_40 f_X7_coveredBy_41
      rw [if_neg n8, X7_isEmpty hR0 hx8, zbd_s]
      simp only [zbd_s, Int32.or_zero, nI_1, nl97, nI_mul]
      by_cases h : J 90 (97 * x) = 0
      · rw [if_pos h, if_pos h, if_neg (by decide)]
      · rw [if_neg h, if_neg h, if_pos rfl]
    rcases zSim_at hS hx8 with ⟨hx', hz⟩ | ⟨u, U, hx', hz, -⟩
    · rw [e6, hx', zcs_n, e7, if_pos hz]
      exact ih (x + 1) k f f' I R J s hS ht (by omega) (by omega) (by omega)
    · obtain ⟨v, I1, J1, T, U, hv, m1, m2, hS1, fC, -⟩ := sim_match (F := F) hF hS (Or.inl rfl) hp hx8 ht hx'
      have g3 : zup (zup R 41 0 (some t)) 41 1 (some u) 3 = R 3 := by rw [zup_ne _ _ _ (by decide), zup_ne _ _ _ (by decide)]
      rw [e6, hx', zcs_s, m1, zbd3_s, e7, if_neg hz, m2, zbd2_s]
      rcases hv with rfl | rfl
      · rw [if_pos rfl, if_pos rfl]
        obtain ⟨w, I2, R2, J2, a1, a2, a3, a4, a5⟩ := ih (x + 1) k f f' I1 _ J1 s (hS1 k) (by rw [g3]; exact ht) (by omega) (by omega) (by omega)
        exact ⟨w, I2, R2, J2, a1, a2, a3, by rw [a4, g3], fun b hb => by rw [a5 b hb, fC b (by omega)]⟩
      · rw [if_neg (by decide), if_neg (by decide)]
        obtain ⟨w, I2, R2, J2, a1, a2, a3, a4, a5⟩ := ih (x + 1) k f f' I1 _ J1 (s ||| ((1 : Int32) <<< (nI x &&& 31))) (hS1 k) (by rw [g3]; exact ht) (by omega) (by omega) (by omega)
        exact ⟨w, I2, R2, J2, a1, a2, a3, by rw [a4, g3], fun b hb => by rw [a5 b hb, fC b (by omega)]⟩
end ZS2
/-- covered() of a register that holds a term, with what digest() needs -/
theorem covered_at {F k : Nat} {K : zK} {I : zI} {R : zR} {n : Nat} {J : zI} {RM : zR} {p t : Nat} (hF : 5000 ≤ F) (hS : zSim k K I R n zKm J RM) (hp : p < 8) (ht : R 3 p = some t) : ∃ (v : Int32) (I1 : zI) (R1 : zR) (J1 : zI), f_X6_covered F K I R 0 (nI p) = some (v, I1, R1) ∧ f_X7_coveredBy F zKm J RM 89 (nI p) = some (v, J1) ∧ zSim k K I1 R1 n zKm J1 RM ∧ R1 3 = R 3 ∧ ∀ b, b < 41 → I1 b = I b := by
  obtain ⟨hcf, hRM, -, hK, hR, hn⟩ := zSim_ctx hS
  have r3 : R 0 3 = some 2 := hR 3 (by decide)
  have k2 : K 2 = (14, 0) := hK 2 (by decide)
  obtain ⟨v, I1, R1, J1, a1, a2, a3, a4, a5⟩ := covered_both (F := F) (by omega) hp 8 0 k F F I R J 0 hS ht (by decide) (by omega) (by omega)
  refine ⟨v, I1, R1, J1, ?_, a2, a3, a4, a5⟩
  unfold f_X6_covered
  rw [X6_reg hp, zbd_s, if_pos rfl, r3, zbd_s, zdr_s (t := 14) (by rw [k2]), zbd_s, X6_term hcf hp, zbd_s, ht, zcs_s]
  exact a1
theorem step_covered (F : Nat) (hF : 5000 ≤ F) : zStep_covered F 89 zSim := by
  intro k K I R n KM J RM x1 hS
  have hS0 : zSim k K I R n KM J RM := zSim_scr hS (fun _ _ => rfl)
  obtain ⟨hcf, hRM, rfl, hK, hR, hn⟩ := zSim_ctx hS
  have hR0 : RM 89 0 = some 90 := hRM 89 0 (by decide) (by decide) (by decide)
  have r3 : R 0 3 = some 2 := hR 3 (by decide)
  have k2 : K 2 = (14, 0) := hK 2 (by decide)
  by_cases h1 : 0 ≤ x1 ∧ x1 ≤ 7
  · obtain ⟨p, hp, rfl⟩ := zreg h1
    rcases zSim_at hS hp with ⟨hx, hz⟩ | ⟨t, T, hx, hz, -⟩
    · refine ⟨-2, I, R, J, ?_, ?_, hS0⟩
      · unfold f_X6_covered
        rw [X6_reg hp, zbd_s, if_pos rfl, r3, zbd_s, zdr_s (t := 14) (by rw [k2]), zbd_s, X6_term hcf hp, zbd_s, hx, zcs_n]
      · unfold f_X7_covered
        rw [X7_wrong2 hR0 hp hp (Or.inl hz), zbd_s, if_neg (by decide)]
    · obtain ⟨v, I1, R1, J1, a1, a2, a3, -⟩ := covered_at hF hS0 hp hx
      refine ⟨v, I1, R1, J1, a1, ?_, a3⟩
      unfold f_X7_covered
      rw [X7_wrong0 hR0 hp hp hz hz, zbd_s, if_pos rfl, a2, zbd2_s]
  · refine ⟨-1, I, R, J, ?_, ?_, hS0⟩
    · unfold f_X6_covered
      rw [X6_noreg h1, zbd_s, if_neg (by decide)]
    · unfold f_X7_covered
      rw [X7_wrong1 _ (fun h => h1 h.1), zbd_s, if_neg (by decide)]
