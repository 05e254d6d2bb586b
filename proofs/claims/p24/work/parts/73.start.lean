/-! How both matchers begin -/
section ZMB
variable {F m : Nat} {K : zK} {R : zR} {RM : zR}
theorem X1_matches12 (hM : zMk K R m) (y : Option Nat) : ∀ (d x t : Nat) (I : zI), x + d = 10 → d < t → f_X1_matches_12 F K m t I R y (nI x) = f_X1_matches_47 F K m F (zup (zup (zrw I (m + 11) x 10 (fun _ => (-1 : Int32))) (m + 9) 0 (0 : Int32)) (m + 10) 0 (1 : Int32)) R y 0 := by
  obtain ⟨hm, km, ⟨k51, k52, k53, k54, k55, k56⟩, r2, r3, r4, r5, r6, r7⟩ := hM
  intro d
  induction d with
  | zero =>
    intro x t I hx ht
    obtain ⟨t, rfl⟩ : ∃ u, t = u + 1 := ⟨t - 1, by omega⟩
    show g_X1_matches_12 F K m _ I R y (nI x) = _
    unfold g_X1_matches_12
    have e1 : ∀ I : zI, zwr K I (m + 9) (0 : Int32) (0 : Int32) = some (zup I (m + 9) 0 (0 : Int32)) := fun I => zwr_s (j := 0) (by rw [k51]; decide) (by rw [k51]; decide)
    have e2 : ∀ I : zI, zwr K I (m + 10) (0 : Int32) (1 : Int32) = some (zup I (m + 10) 0 (1 : Int32)) := fun I => zwr_s (j := 0) (by rw [k52]; decide) (by rw [k52]; decide)
    rw [if_pos (show (10 : Int32) ≤ nI x from nI_le (a := 10) (by omega) (by omega)), r2, zbd_s, zdr_s (t := 1) (by rw [k51]), zbd_s, e1, zbd_s, r3, zbd_s, zdr_s (t := 1) (by rw [k52]), zbd_s, e2, zbd_s, zrw_end _ _ _ (by omega)]
  | succ d ih =>
    intro x t I hx ht
    obtain ⟨t, rfl⟩ : ∃ u, t = u + 1 := ⟨t - 1, by omega⟩
    show g_X1_matches_12 F K m _ I R y (nI x) = _
    unfold g_X1_matches_12
    rw [if_neg (show ¬ ((10 : Int32) ≤ nI x) from nI_ge (a := x) (b := 10) (by omega) (by omega)), r4, zbd_s, zdr_s (t := 1) (by rw [k53]), zbd_s, zwr_s (by rw [k53]; show x < 10; omega) (by rw [k53]; decide), zbd_s, nI_1, ih (x + 1) t _ (by omega) (by omega), zrw_step I (m + 11) (fun _ => (-1 : Int32)) (by omega)]
theorem X7_matches20 (hRM : ∀ a k, 89 ≤ a → a < 121 → k < 39 → RM a k = zRt a k) (o q : Int32) : ∀ (d x t : Nat) (J : zI), x + d = 10 → d < t → f_X7_matches_20 F zKm RM 89 t J o q (nI x) = f_X7_matches_55 F zKm RM 89 F (zPush (zup (zrw J 113 x 10 (fun _ => (-1 : Int32))) 89 29 (0 : Int32)) 0 (0, 0, 0, 0, 0)) o q 1 := by
  have r31 : RM 89 31 = some 113 := hRM 89 31 (by decide) (by decide) (by decide)
  have k114 : zKm 113 = (1, 10) := rfl
  intro d
  induction d with
  | zero =>
    intro x t J hx ht
    obtain ⟨t, rfl⟩ : ∃ u, t = u + 1 := ⟨t - 1, by omega⟩
    show g_X7_matches_20 F zKm RM 89 _ J o q (nI x) = _
    unfold g_X7_matches_20
    rw [if_pos (show (10 : Int32) ≤ nI x from nI_le (a := 10) (by omega) (by omega)), zbd_s, X7_pushes (s := 0) hRM (by decide) (show zup J 89 29 (0 : Int32) 89 29 = nI 0 from zup_self _ _ _ _) (Or.inl rfl), zbd_s, zrw_end _ _ _ (by omega)]
  | succ d ih =>
    intro x t J hx ht
    obtain ⟨t, rfl⟩ : ∃ u, t = u + 1 := ⟨t - 1, by omega⟩
    show g_X7_matches_20 F zKm RM 89 _ J o q (nI x) = _
    unfold g_X7_matches_20
    rw [if_neg (show ¬ ((10 : Int32) ≤ nI x) from nI_ge (a := x) (b := 10) (by omega) (by omega)), r31, zbd_s, zdr_s (t := 1) (by rw [k114]), zbd_s, zwr_s (by rw [k114]; show x < 10; omega) (by rw [k114]; decide), zbd_s, nI_1, ih (x + 1) t _ (by omega) (by omega), zrw_step J 113 (fun _ => (-1 : Int32)) (by omega)]
end ZMB
