/-- what both matchers do keeps zSim -/
theorem zSim_match {k k' : Nat} {K : zK} {I I1 : zI} {R R1 : zR} {n : Nat} {KM : zK} {J J1 : zI} {RM : zR} (h : zSim k K I R n KM J RM) (h1 : ∀ b, b < 51 ∨ 56 < b → I1 b = I b) (h2 : ∀ b k, ¬ (b = 42 ∧ k < 2) → R1 b k = R b k) (h3 : ∀ b, b = 91 ∨ b = 92 → J1 b = J b) (h4 : ∀ k, k < 6 → J1 90 k = J 90 k) : zSim k' K I1 R1 n KM J1 RM := by
  obtain ⟨b, hb, hb1, hb2, htx⟩ := h.2.1
  refine zSim_keep h (Nat.le_refl _) (fun _ _ => rfl) h.1.2.2.2.1 (fun c c1 c2 => ⟨h1 c (by omega), ?_⟩) (fun a k hf => h2 a k (by unfold zFin at hf; omega)) (fun a ha r hr => h2 _ _ (by unfold zHs zHa at ha; omega)) (fun a ha k hk => by rw [h1 _ (by unfold zHs zHa at ha; omega)]) (fun j hj => h2 _ _ (by omega)) (by rw [h1 0 (by omega)]) (fun q _ => by rw [h3 91 (by omega)]) (h4 1 (by omega)) ⟨b, hb, by rw [h1 0 (by omega)]; exact hb1, by rw [h4 3 (by omega)]; exact hb2, fun i hi => by rw [h1 1 (by omega), h3 92 (by omega)]; exact htx i hi⟩ (by rw [h1 0 (by omega), h4 4 (by omega)]; exact h.2.2.1)
  funext j
  exact h2 c j (by omega)
theorem covers_of (F : Nat) (hM : zMatch F) : zStep_covers F 90 zSim := by
  intro k K I R n KM J RM x1 x2 hS
  have hS0 : zSim k K I R n KM J RM := zSim_scr hS (fun _ _ => rfl)
  have hcf := zSim_cf hS
  obtain ⟨k0, k5, r3, r4⟩ := zK_fix hcf
  have hat := fun r (hr : r < 8) => zSim_at hS hr
  obtain ⟨⟨hn, hK, hK2, hK3, hR, hKM, hRM⟩, -⟩ := hS
  have hR0 : RM 90 0 = some 91 := hRM 90 0 (by decide) (by decide) (by decide)
  have r9 : R 0 9 = some 42 := hR 0 9 (by unfold zFin; omega)
  have k42 : K 42 = (11, 0) := hK 42 (by decide)
  have k2 : K 2 = (14, 0) := hK 2 (by decide)
  by_cases h12 : (0 ≤ x1 ∧ x1 ≤ 7) ∧ (0 ≤ x2 ∧ x2 ≤ 7)
  · obtain ⟨r, hr, rfl⟩ := zreg h12.1
    obtain ⟨q, hq, rfl⟩ := zreg h12.2
    have e6 : f_X6_covers F K I R 0 (nI r) (nI q) = zcs (R (2 + 1) r) (some ((-2 : Int32), I, R)) (fun a19 => zcs (R (2 + 1) q) (some ((-2 : Int32), I, R)) (fun a21 => zbd3 (f_X1_matches F K I R 42 (some a19) (some a21)) fun v27 I28 R29 => if v27 = (0 : Int32) then some ((0 : Int32), I28, R29) else some ((1 : Int32), I28, R29))) := by
      unfold f_X6_covers
      rw [X6_reg hr, zbd_s, if_pos rfl, X6_reg hq, zbd_s, if_pos rfl, r3, zbd_s, zdr_s (t := 14) (by rw [k2]), zbd_s, X4_term hcf (Or.inl rfl) hr, zbd_s, zbd_s, zdr_s (t := 14) (by rw [k2]), zbd_s, X4_term hcf (Or.inl rfl) hq, zbd_s]
      simp only [r9, zbd_s, zdr_s (show (K 42).1 = 11 by rw [k42])]
    rw [e6]
    rcases hat r hr with ⟨hx, hz⟩ | ⟨t, T, hx, hz, ht1, ht2, hT, hTc, hTm⟩
    · refine ⟨-2, I, R, J, by rw [show R (2 + 1) r = none from hx, zcs_n], ?_, hS0⟩
      unfold f_X7_covers
      rw [hKM, X7_wrong2 hR0 hr hq (Or.inl hz), zbd_s, if_neg (by decide)]
    · rcases hat q hq with ⟨hx', hz'⟩ | ⟨u, U, hx', hz', hu1, hu2, hU, hUc, hUm⟩
      · refine ⟨-2, I, R, J, by rw [show R (2 + 1) r = some t from hx, zcs_s, show R (2 + 1) q = none from hx', zcs_n], ?_, hS0⟩
        unfold f_X7_covers
        rw [hKM, X7_wrong2 hR0 hr hq (Or.inr hz'), zbd_s, if_neg (by decide)]
      · obtain ⟨v, I1, R1, J1, m1, m2, m3, m4, m5, m6⟩ := hM K I R J RM t u r q T U hcf hRM ht1 hu1 hr hq hT hU hTc hUc hTm hUm
        have hS1 := zSim_match (k' := k) hS0 m3 m4 m5 m6
        by_cases hv : v = 0
        · refine ⟨0, I1, R1, J1, ?_, ?_, hS1⟩
          · rw [show R (2 + 1) r = some t from hx, zcs_s, show R (2 + 1) q = some u from hx', zcs_s, m1, zbd3_s, if_pos hv]
          · unfold f_X7_covers
            rw [hKM, X7_wrong0 hR0 hr hq hz hz', zbd_s, if_pos rfl, show (97 : Int32) = nI 97 from rfl, nI_mul, nI_mul, m2, zbd2_s, if_pos hv]
        · refine ⟨1, I1, R1, J1, ?_, ?_, hS1⟩
          · rw [show R (2 + 1) r = some t from hx, zcs_s, show R (2 + 1) q = some u from hx', zcs_s, m1, zbd3_s, if_neg hv]
          · unfold f_X7_covers
            rw [hKM, X7_wrong0 hR0 hr hq hz hz', zbd_s, if_pos rfl, show (97 : Int32) = nI 97 from rfl, nI_mul, nI_mul, m2, zbd2_s, if_neg hv]
  · refine ⟨-1, I, R, J, ?_, ?_, hS0⟩
    · unfold f_X6_covers
      by_cases h1 : 0 ≤ x1 ∧ x1 ≤ 7
      · obtain ⟨r, hr, rfl⟩ := zreg h1
        rw [X6_reg hr, zbd_s, if_pos rfl, X6_noreg (fun h2 => h12 ⟨h1, h2⟩), zbd_s, if_neg (by decide)]
      · rw [X6_noreg h1, zbd_s, if_neg (by decide)]
    · unfold f_X7_covers
      rw [X7_wrong1 _ h12, zbd_s, if_neg (by decide)]
