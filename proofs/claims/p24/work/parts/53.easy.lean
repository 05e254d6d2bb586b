/-! STEPS: type, clear, fault -/
theorem step_type (F : Nat) : zStep_type F 89 zSim := by
  intro k K I R n KM J RM x1 hS
  have hS0 := hS
  obtain ⟨⟨hn, hK, hK2, hK3, hR, hKM, hRM⟩, ⟨b, hb, hb1, hb2, htx⟩, hfk, hst, hh⟩ := hS
  have hR00 : R 0 0 = some 1 := hR 0 0 (by unfold zFin; omega)
  have hR2 : RM 89 2 = some 91 := hRM 89 2 (by decide) (by decide) (by decide)
  have hK1 : K 1 = (1, 80) := hK 1 (by decide)
  have hKM92 : KM 91 = (1, 80) := by rw [hKM]; rfl
  by_cases h1 : x1 < 33
  · refine ⟨-1, I, J, ?_, ?_, hS0⟩
    · unfold f_X6_type
      rw [if_pos h1]
    · unfold f_X7_type
      rw [zi_0 (fun h => absurd h.1 (Int32.not_le.mpr h1)), zbd_s, if_pos rfl]
  by_cases h2 : x1 ≤ 126
  · have h12 : (33 : Int32) ≤ x1 ∧ x1 ≤ 126 := ⟨Int32.not_lt.mp h1, h2⟩
    by_cases h3 : b = 80
    · subst h3
      refine ⟨-3, I, J, ?_, ?_, hS0⟩
      · unfold f_X6_type
        have e1 : zln K 1 - 1 = nI 79 := by simp only [zln, hK1]; rfl
        rw [if_neg h1, if_pos h2, hR00, zbd_s, zdr_s (by rw [hK1]), zbd_s, hb1, e1, zo_1 (fun h => absurd h.2 (nI_ge (by omega) (by omega))), zbd_s, if_neg (by decide)]
      · unfold f_X7_type
        rw [zi_1 h12, zbd_s, if_neg (by decide), if_pos (by rw [hb2]; rfl)]
    · have hlt : b < 80 := by omega
      refine ⟨nI (b + 1), zup (zup I 1 b x1) 0 1 (nI (b + 1)), zup (zup J 91 b x1) 89 3 (nI (b + 1)), ?_, ?_, ?_⟩
      · unfold f_X6_type
        have e1 : zln K 1 - 1 = nI 79 := by simp only [zln, hK1]; rfl
        rw [if_neg h1, if_pos h2, hR00, zbd_s, zdr_s (by rw [hK1]), zbd_s, hb1, e1, zo_0 ⟨nI_pos' (by omega), nI_le (by omega) (by omega)⟩, zbd_s, if_pos rfl]
        rw [zbd_s, zdr_s (by rw [hK1]), zbd_s, zwr_s (by rw [hK1]; exact hlt) (by rw [hK1]; decide), zbd_s, zbd_s, zup_self]
        rw [show zup I 1 b x1 0 1 = I 0 1 from by rw [zup_ne _ _ _ (by decide)], hb1, nI_1]
      · unfold f_X7_type
        rw [zi_1 h12, zbd_s, if_neg (by decide), if_neg (by rw [hb2]; intro h; exact h3 (nI_inj (by omega) (by omega) h))]
        rw [hR2, zbd_s, zdr_s (by rw [hKM92]), zbd_s, hb2, zwr_s (by rw [hKM92]; exact hlt) (by rw [hKM92]; decide), zbd_s, zbd_s, zup_self]
        rw [show zup J 91 b x1 89 3 = J 89 3 from by rw [zup_ne _ _ _ (by decide)], hb2, nI_1]
      · refine zSim_keep hS0 (Nat.le_refl _) (fun _ _ => rfl) hK3 (fun c g1 g2 => ⟨by rw [zup_ne _ _ _ (by omega), zup_ne _ _ _ (by omega)], rfl⟩) (fun _ _ _ => rfl) (fun _ _ _ _ => rfl) (fun a ha k hk => ?_) (fun _ _ => rfl) ?_ (fun q hq => ?_) ?_ ⟨b + 1, by omega, zup_self _ _ _ _, zup_self _ _ _ _, fun i hi => ?_⟩ ?_
        · unfold zHs zHa at ha
          rw [zup_ne _ _ _ (by omega), zup_ne _ _ _ (by omega)]
        · rw [zup_self_ne _ _ _ (by decide), zup_ne _ _ _ (by decide)]
        · rw [zup_ne _ _ _ (by decide), zup_ne _ _ _ (by decide)]
        · rw [zup_self_ne _ _ _ (by decide), zup_ne _ _ _ (by decide)]
        · by_cases h : i = b
          · simp [zup, h]
          · simp [zup, h, htx i (by omega)]
        · rw [zup_self_ne _ _ _ (by decide), zup_ne _ _ _ (by decide), zup_self_ne _ _ _ (by decide), zup_ne _ _ _ (by decide)]
          exact hfk
  · refine ⟨-1, I, J, ?_, ?_, hS0⟩
    · unfold f_X6_type
      rw [if_neg h1, if_neg h2]
    · unfold f_X7_type
      rw [zi_0 (fun h => h2 h.2), zbd_s, if_pos rfl]
theorem step_clear (F : Nat) : zStep_clear F 89 zSim := by
  intro k K I R n KM J RM hS
  have hS0 := hS
  obtain ⟨⟨hn, hK, hK2, hK3, hR, hKM, hRM⟩, ⟨b, hb, hb1, hb2, htx⟩, hfk, hst, hh⟩ := hS
  refine ⟨nI b, zup I 0 1 0, zup J 89 3 0, ?_, ?_, ?_⟩
  · unfold f_X6_clear
    rw [zbd_s, zbd_s, hb1]
  · unfold f_X7_clear
    rw [zbd_s, zbd_s, hb2]
  · refine zSim_keep hS0 (Nat.le_refl _) (fun _ _ => rfl) hK3 (fun c g1 g2 => ⟨zup_ne _ _ _ (by omega), rfl⟩) (fun _ _ _ => rfl) (fun _ _ _ _ => rfl) (fun a ha k hk => ?_) (fun _ _ => rfl) ?_ (fun q hq => ?_) ?_ ⟨0, by omega, zup_self _ _ _ _, zup_self _ _ _ _, fun i hi => by omega⟩ ?_
    · rw [zup_ne _ _ _ (by omega)]
    · exact zup_self_ne _ _ _ (by decide)
    · rw [zup_ne _ _ _ (by decide)]
    · exact zup_self_ne _ _ _ (by decide)
    · rw [zup_self_ne _ _ _ (by decide), zup_self_ne _ _ _ (by decide)]
      exact hfk
