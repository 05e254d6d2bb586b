/-! FILLS of both matchers -/
def zFl (T U : Tm) (I J : zI) : Prop := ∀ g, g < 10 → (I 53 g = -1 ∧ J 114 g = -1) ∨ ∃ s j c : Nat, I 53 g = nI s ∧ s ≤ 3 ∧ (∀ i, i < tn T → ts T i ≠ 0 → tg T i = g → s = ts T i) ∧ I 54 g = nI j ∧ I 55 g = nI c ∧ J 113 g = nI j ∧ J 114 g = nI c ∧ J 115 g = I 56 g ∧ j + c ≤ tn U ∧ (s = 2 → j < tn U)
section ZFI
variable {F : Nat} {K : zK} {I : zI} {R : zR} {J : zI} {RM : zR} {t u q p j c : Nat} {T U : Tm}
theorem X1_fill_new (hK : ∀ a, a < 90 → K a = zKt a) (hRt : ∀ k, 2 ≤ k → k < 8 → R 42 k = zRt 42 k) (h0 : R 42 0 = some t) (hT : tWF T) (hTc : zTc K I R t T) (hp : p < tn T) (hs : ts T p ≠ 0) (hf : I 53 (tg T p) = -1) : f_X1_fill F K I R 42 (nI p) (nI j) (nI c) = some (1, zup (zup (zup (zup I 53 (tg T p) (nI (ts T p))) 54 (tg T p) (nI j)) 55 (tg T p) (nI c)) 56 (tg T p) (I 52 p)) := by
  have k15 : (K t).1 = 15 := by rw [hTc.1]
  have k52 : K 52 = (1, 32) := hK 52 (by decide)
  have k53 : K 53 = (1, 10) := hK 53 (by decide)
  have k54 : K 54 = (1, 10) := hK 54 (by decide)
  have k55 : K 55 = (1, 10) := hK 55 (by decide)
  have k56 : K 56 = (1, 10) := hK 56 (by decide)
  have r3 : R 42 3 = some 52 := hRt 3 (by decide) (by decide)
  have r4 : R 42 4 = some 53 := hRt 4 (by decide) (by decide)
  have r5 : R 42 5 = some 54 := hRt 5 (by decide) (by decide)
  have r6 : R 42 6 = some 55 := hRt 6 (by decide) (by decide)
  have r7 : R 42 7 = some 56 := hRt 7 (by decide) (by decide)
  have hg : tg T p < 10 := by have := (hT.2.1 p hp).2.2.2.1 hs; omega
  have hn := hT.1.2.1
  unfold f_X1_fill
  rw [h0, zbd_s, zdr_s k15, zbd_s, X5_numberOf hTc hT hp, zbd_s, zo_0 (show (0 : Int32) ≤ nI (tg T p) ∧ nI (tg T p) ≤ 9 from ⟨nI_pos' (by omega), nI_le (b := 9) (by omega) (by omega)⟩), zbd_s, if_pos rfl, r4, zbd_s, zdr_s (t := 1) (by rw [k53]), zbd_s, zrd_s (by rw [k53]; exact hg) (by rw [k53]; decide), zbd_s, if_pos hf, zbd_s, zbd_s, zdr_s k15, zbd_s, X5_sortOf hTc hT hp, zbd_s, zdr_s (t := 1) (by rw [k53]), zbd_s, zwr_s (by rw [k53]; exact hg) (by rw [k53]; decide), zbd_s, r5, zbd_s, zdr_s (t := 1) (by rw [k54]), zbd_s, zwr_s (by rw [k54]; exact hg) (by rw [k54]; decide), zbd_s, r6, zbd_s, zdr_s (t := 1) (by rw [k55]), zbd_s, zwr_s (by rw [k55]; exact hg) (by rw [k55]; decide), zbd_s, r7, zbd_s, r3, zbd_s, zdr_s (t := 1) (by rw [k52]), zbd_s, zrd_s (by rw [k52]; show p < 32; omega) (by rw [k52]; decide), zbd_s, zdr_s (t := 1) (by rw [k56]), zbd_s, zwr_s (by rw [k56]; exact hg) (by rw [k56]; decide), zbd_s, zup_ne _ _ _ (show (52 : Nat) ≠ 55 by decide), zup_ne _ _ _ (show (52 : Nat) ≠ 54 by decide), zup_ne _ _ _ (show (52 : Nat) ≠ 53 by decide)]
theorem X7_fills_new (hRM : ∀ a k, 90 ≤ a → a < 122 → k < 39 → RM a k = zRt a k) (o e w : Int32) {g : Nat} (hg : g < 10) (hf : J 114 g = -1) : f_X7_fills F zKm J RM 90 o (nI g) e (nI j) (nI c) w = some (1, zup (zup (zup J 113 g (nI j)) 114 g (nI c)) 115 g w) := by
  have r30 : RM 90 30 = some 113 := hRM 90 30 (by decide) (by decide) (by decide)
  have r31 : RM 90 31 = some 114 := hRM 90 31 (by decide) (by decide) (by decide)
  have r32 : RM 90 32 = some 115 := hRM 90 32 (by decide) (by decide) (by decide)
  have k113 : zKm 113 = (1, 10) := rfl
  have k114 : zKm 114 = (1, 10) := rfl
  have k115 : zKm 115 = (1, 10) := rfl
  unfold f_X7_fills
  rw [r31, zbd_s, zdr_s (t := 1) (by rw [k114]), zbd_s, zrd_s (by rw [k114]; exact hg) (by rw [k114]; decide), zbd_s, hf, if_neg (by decide), r30, zbd_s, zdr_s (t := 1) (by rw [k113]), zbd_s, zwr_s (by rw [k113]; exact hg) (by rw [k113]; decide), zbd_s, zbd_s, zdr_s (t := 1) (by rw [k114]), zbd_s, zwr_s (by rw [k114]; exact hg) (by rw [k114]; decide), zbd_s, r32, zbd_s, zdr_s (t := 1) (by rw [k115]), zbd_s, zwr_s (by rw [k115]; exact hg) (by rw [k115]; decide), zbd_s]
end ZFI
