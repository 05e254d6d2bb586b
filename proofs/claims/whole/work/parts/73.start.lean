/-! How both matchers begin -/
section ZMB
variable {F : Nat} {K : zK} {R : zR} {RM : zR}
theorem X1_matches12 (hK : ∀ a, a < 90 → K a = zKt a) (hRt : ∀ k, 2 ≤ k → k < 8 → R 42 k = zRt 42 k) (y : Option Nat) : ∀ (d x t : Nat) (I : zI), x + d = 10 → d < t → f_X1_matches_12 F K 42 t I R y (nI x) = f_X1_matches_47 F K 42 F (zup (zup (zrw I 53 x 10 (fun _ => (-1 : Int32))) 51 0 (0 : Int32)) 52 0 (1 : Int32)) R y 0 := by
  have k51 : K 51 = (1, 32) := hK 51 (by decide)
  have k52 : K 52 = (1, 32) := hK 52 (by decide)
  have k53 : K 53 = (1, 10) := hK 53 (by decide)
  have r2 : R 42 2 = some 51 := hRt 2 (by decide) (by decide)
  have r3 : R 42 3 = some 52 := hRt 3 (by decide) (by decide)
  have r4 : R 42 4 = some 53 := hRt 4 (by decide) (by decide)
  intro d
  induction d with
  | zero =>
    intro x t I hx ht
    obtain ⟨t, rfl⟩ : ∃ u, t = u + 1 := ⟨t - 1, by omega⟩
    show g_X1_matches_12 F K 42 _ I R y (nI x) = _
    unfold g_X1_matches_12
    have e1 : ∀ I : zI, zwr K I 51 (0 : Int32) (0 : Int32) = some (zup I 51 0 (0 : Int32)) := fun I => zwr_s (j := 0) (by rw [k51]; decide) (by rw [k51]; decide)
    have e2 : ∀ I : zI, zwr K I 52 (0 : Int32) (1 : Int32) = some (zup I 52 0 (1 : Int32)) := fun I => zwr_s (j := 0) (by rw [k52]; decide) (by rw [k52]; decide)
    rw [if_pos (show (10 : Int32) ≤ nI x from nI_le (a := 10) (by omega) (by omega)), r2, zbd_s, zdr_s (t := 1) (by rw [k51]), zbd_s, e1, zbd_s, r3, zbd_s, zdr_s (t := 1) (by rw [k52]), zbd_s, e2, zbd_s, zrw_end _ _ _ (by omega)]
  | succ d ih =>
    intro x t I hx ht
    obtain ⟨t, rfl⟩ : ∃ u, t = u + 1 := ⟨t - 1, by omega⟩
    show g_X1_matches_12 F K 42 _ I R y (nI x) = _
    unfold g_X1_matches_12
    rw [if_neg (show ¬ ((10 : Int32) ≤ nI x) from nI_ge (a := x) (b := 10) (by omega) (by omega)), r4, zbd_s, zdr_s (t := 1) (by rw [k53]), zbd_s, zwr_s (by rw [k53]; show x < 10; omega) (by rw [k53]; decide), zbd_s, nI_1, ih (x + 1) t _ (by omega) (by omega), zrw_step I 53 (fun _ => (-1 : Int32)) (by omega)]
theorem X7_matches20 (hRM : ∀ a k, 90 ≤ a → a < 122 → k < 39 → RM a k = zRt a k) (o q : Int32) : ∀ (d x t : Nat) (J : zI), x + d = 10 → d < t → f_X7_matches_20 F zKm RM 90 t J o q (nI x) = f_X7_matches_55 F zKm RM 90 F (zPush (zup (zrw J 114 x 10 (fun _ => (-1 : Int32))) 90 29 (0 : Int32)) 0 (0, 0, 0, 0, 0)) o q 1 := by
  have r31 : RM 90 31 = some 114 := hRM 90 31 (by decide) (by decide) (by decide)
  have k114 : zKm 114 = (1, 10) := rfl
  intro d
  induction d with
  | zero =>
    intro x t J hx ht
    obtain ⟨t, rfl⟩ : ∃ u, t = u + 1 := ⟨t - 1, by omega⟩
    show g_X7_matches_20 F zKm RM 90 _ J o q (nI x) = _
    unfold g_X7_matches_20
    rw [if_pos (show (10 : Int32) ≤ nI x from nI_le (a := 10) (by omega) (by omega)), zbd_s, X7_pushes (s := 0) hRM (by decide) (show zup J 90 29 (0 : Int32) 90 29 = nI 0 from zup_self _ _ _ _) (Or.inl rfl), zbd_s, zrw_end _ _ _ (by omega)]
  | succ d ih =>
    intro x t J hx ht
    obtain ⟨t, rfl⟩ : ∃ u, t = u + 1 := ⟨t - 1, by omega⟩
    show g_X7_matches_20 F zKm RM 90 _ J o q (nI x) = _
    unfold g_X7_matches_20
    rw [if_neg (show ¬ ((10 : Int32) ≤ nI x) from nI_ge (a := x) (b := 10) (by omega) (by omega)), r31, zbd_s, zdr_s (t := 1) (by rw [k114]), zbd_s, zwr_s (by rw [k114]; show x < 10; omega) (by rw [k114]; decide), zbd_s, nI_1, ih (x + 1) t _ (by omega) (by omega), zrw_step J 114 (fun _ => (-1 : Int32)) (by omega)]
end ZMB
