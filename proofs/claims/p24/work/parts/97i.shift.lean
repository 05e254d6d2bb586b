/-! put(): the reference takes a node out of the row -/
section ZPI
variable {F : Nat} {RM : zR}
theorem flat140 (hRM : zRM RM) {n : Nat} (hn : n ≤ 32) (hn1 : 1 ≤ n) (k9 : zI → Int32 → Option zI) (x1 : Int32) : ∀ (d k f : Nat) (J : zI), k + 3 + d = 5461 + 3 * n → 5461 ≤ k → d < f → J 90 5460 = nI n → f_X7_flattens_140 F zKm RM 89 k9 f J x1 (nI k) = (zbd (f_X7_levels F zKm (zup (zrw J 90 k (5458 + 3 * n) (fun y => J 90 (y + 3))) 90 5460 (nI (n - 1))) RM 89 (nI 5460)) fun I13 => k9 I13 x1) := by
  have r0 : RM 89 0 = some 90 := hRM 89 0 (by decide) (by decide) (by decide)
  have e1 : (5461 : Int32) + ((3 : Int32) * nI n) = nI (5461 + 3 * n) := by rw [nl3, nI_mul, show (5461 : Int32) = nI 5461 from rfl, nI_add]
  intro d
  induction d with
  | zero =>
    intro k f J hk hk2 hf hJ
    obtain ⟨f, rfl⟩ : ∃ y, f = y + 1 := ⟨f - 1, by omega⟩
    show g_X7_flattens_140 F zKm RM 89 k9 _ J x1 (nI k) = _
    unfold g_X7_flattens_140 f_X7_flattens_208
    rw [r0, zbd_s, zd91, zbd_s, show (5460 : Int32) = nI 5460 from rfl, zrd_s (by rw [zKm91]; decide) (by decide), zbd_s, hJ, e1, show nI k + (3 : Int32) = nI (k + 3) from by rw [nl3, nI_add], if_pos (nI_le (by omega) (by omega)), zbd_s, zd91, zbd_s, zrd_s (by rw [zKm91]; decide) (by decide), zbd_s, hJ, zwr_s (by rw [zKm91]; decide) (by decide), zbd_s, aPrd hn1, zrw_end _ _ _ (by omega)]
  | succ d ih =>
    intro k f J hk hk2 hf hJ
    obtain ⟨f, rfl⟩ : ∃ y, f = y + 1 := ⟨f - 1, by omega⟩
    have hz : zrw (zup J 90 k (J 90 (k + 3))) 90 (k + 1) (5458 + 3 * n) (fun y => zup J 90 k (J 90 (k + 3)) 90 (y + 3)) = zrw J 90 k (5458 + 3 * n) (fun y => J 90 (y + 3)) := by
      funext b j
      by_cases hb : b = 90
      · subst hb
        by_cases h1 : k + 1 ≤ j ∧ j < 5458 + 3 * n
        · rw [zrw_in _ _ _ h1.1 h1.2, zrw_in _ _ _ (by omega) h1.2, zup_self_ne _ _ _ (by omega)]
        · by_cases h2 : j = k
          · rw [h2, zrw_in J _ _ (Nat.le_refl _) (by omega)]
            unfold zrw
            rw [if_neg (by omega), zup_self]
          · unfold zrw
            rw [if_neg (by omega), if_neg (by omega), zup_self_ne _ _ _ h2]
      · rw [zrw_ne _ _ _ _ hb, zrw_ne _ _ _ _ hb, zup_ne _ _ _ hb]
    show g_X7_flattens_140 F zKm RM 89 k9 (f_X7_flattens_140 F zKm RM 89 k9 f) J x1 (nI k) = _
    unfold g_X7_flattens_140
    rw [r0, zbd_s, zd91, zbd_s, show (5460 : Int32) = nI 5460 from rfl, zrd_s (by rw [zKm91]; decide) (by decide), zbd_s, hJ, e1, show nI k + (3 : Int32) = nI (k + 3) from by rw [nl3, nI_add], if_neg (nI_ge (by omega) (by omega)), zbd_s, zbd_s, zd91, zbd_s, zrd_s (by rw [zKm91]; show _ < 5751; omega) (by decide), zbd_s, zbd_s, zwr_s (by rw [zKm91]; show _ < 5751; omega) (by decide), zbd_s, nI_1, ih (k + 1) f _ (by omega) (by omega) (by omega) (by rw [zup_self_ne _ _ _ (by omega)]; exact hJ), hz]
end ZPI
