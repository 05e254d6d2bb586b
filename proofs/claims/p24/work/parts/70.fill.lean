/-! FILLS of both matchers -/
/-- e terms of the term U from j on, arguments of one node, c nodes -/
def tSeg (U : Tm) (j c e : Nat) : Prop := ∃ q x, q < tn U ∧ x + e ≤ tr U q ∧ j = tc U q x ∧ j + c = tc U q (x + e)
def tFill (U : Tm) (s j c e : Nat) : Prop := (s = 1 → j < tn U ∧ ts U j ≠ 3 ∧ c = tsp U j ∧ e = 1) ∧ (s = 2 → j < tn U ∧ (ts U j = 0 ∨ ts U j = 2) ∧ c = 1 ∧ e = 1) ∧ (s = 3 → tSeg U j c e)
/-- what fills hole g, told by both sides; the pattern's nodes before n have been looked at -/
def zFl1 (T U : Tm) (I J : zI) (m n g : Nat) : Prop := (I (m + 11) g = -1 ∧ J 113 g = -1 ∧ ∀ p, p < n → ts T p ≠ 0 → tg T p ≠ g) ∨ ∃ p j c e : Nat, p < n ∧ ts T p ≠ 0 ∧ tg T p = g ∧ I (m + 11) g = nI (ts T p) ∧ I (m + 12) g = nI j ∧ I (m + 13) g = nI c ∧ I (m + 14) g = nI e ∧ J 112 g = nI j ∧ J 113 g = nI c ∧ J 114 g = nI e ∧ tFill U (ts T p) j c e
def zFl (T U : Tm) (I J : zI) (m n : Nat) : Prop := ∀ g, g < 10 → zFl1 T U I J m n g
theorem tSeg_le {U : Tm} (h : tSh U) {j c e : Nat} (hs : tSeg U j c e) : j + c ≤ tn U := by
  obtain ⟨q, x, h1, h2, h3, h4⟩ := hs
  rw [h4]
  have h5 := tc_mono (T := U) (i := q) h2
  have h6 := tc_end h h1
  omega
theorem tFill_le {U : Tm} (h : tSh U) {s j c e : Nat} (h0 : s = 1 ∨ s = 2 ∨ s = 3) (hs : tFill U s j c e) : j + c ≤ tn U ∧ (s = 2 → j < tn U) := by
  obtain ⟨h1, h2, h3⟩ := hs
  refine ⟨?_, fun e => (h2 e).1⟩
  rcases h0 with e | e | e
  · obtain ⟨a, b, c, d⟩ := h1 e
    have := (h.2.2.2.1 j a).1
    omega
  · obtain ⟨a, b, c, d⟩ := h2 e
    omega
  · exact tSeg_le h (h3 e)
section ZFI
variable {F : Nat} {K : zK} {I : zI} {R : zR} {J : zI} {RM : zR} {t u q p j c m : Nat} {T U : Tm}
theorem X1_fill_new (hM : zMk K R m) (h0 : R m 0 = some t) (hT : tWF T) (hTc : zTc K I R t T) (hp : p < tn T) (hs : ts T p ≠ 0) (hf : I (m + 11) (tg T p) = -1) : f_X1_fill F K I R m (nI p) (nI j) (nI c) = some (1, zup (zup (zup (zup I (m + 11) (tg T p) (nI (ts T p))) (m + 12) (tg T p) (nI j)) (m + 13) (tg T p) (nI c)) (m + 14) (tg T p) (I (m + 10) p)) := by
  obtain ⟨hm, km, ⟨k51, k52, k53, k54, k55, k56⟩, r2, r3, r4, r5, r6, r7⟩ := hM
  have k15 : (K t).1 = 15 := by rw [hTc.1]
  have hg : tg T p < 10 := by have := (hT.2.1 p hp).2.2.2.1 hs; omega
  have hn := hT.1.2.1
  unfold f_X1_fill
  rw [h0, zbd_s, zdr_s k15, zbd_s, X5_numberOf hTc hT hp, zbd_s, zo_0 (show (0 : Int32) ≤ nI (tg T p) ∧ nI (tg T p) ≤ 9 from ⟨nI_pos' (by omega), nI_le (b := 9) (by omega) (by omega)⟩), zbd_s, if_pos rfl, r4, zbd_s, zdr_s (t := 1) (by rw [k53]), zbd_s, zrd_s (by rw [k53]; exact hg) (by rw [k53]; decide), zbd_s, if_pos hf, zbd_s, zbd_s, zdr_s k15, zbd_s, X5_sortOf hTc hT hp, zbd_s, zdr_s (t := 1) (by rw [k53]), zbd_s, zwr_s (by rw [k53]; exact hg) (by rw [k53]; decide), zbd_s, r5, zbd_s, zdr_s (t := 1) (by rw [k54]), zbd_s, zwr_s (by rw [k54]; exact hg) (by rw [k54]; decide), zbd_s, r6, zbd_s, zdr_s (t := 1) (by rw [k55]), zbd_s, zwr_s (by rw [k55]; exact hg) (by rw [k55]; decide), zbd_s, r7, zbd_s, r3, zbd_s, zdr_s (t := 1) (by rw [k52]), zbd_s, zrd_s (by rw [k52]; show p < 32; omega) (by rw [k52]; decide), zbd_s, zdr_s (t := 1) (by rw [k56]), zbd_s, zwr_s (by rw [k56]; exact hg) (by rw [k56]; decide), zbd_s, zup_ne _ _ _ (show m + 10 ≠ m + 13 by omega), zup_ne _ _ _ (show m + 10 ≠ m + 12 by omega), zup_ne _ _ _ (show m + 10 ≠ m + 11 by omega)]
theorem X7_fills_new (hRM : ∀ a k, 89 ≤ a → a < 121 → k < 39 → RM a k = zRt a k) (o e w : Int32) {g : Nat} (hg : g < 10) (hf : J 113 g = -1) : f_X7_fills F zKm J RM 89 o (nI g) e (nI j) (nI c) w = some (1, zup (zup (zup J 112 g (nI j)) 113 g (nI c)) 114 g w) := by
  have r30 : RM 89 30 = some 112 := hRM 89 30 (by decide) (by decide) (by decide)
  have r31 : RM 89 31 = some 113 := hRM 89 31 (by decide) (by decide) (by decide)
  have r32 : RM 89 32 = some 114 := hRM 89 32 (by decide) (by decide) (by decide)
  have k113 : zKm 112 = (1, 10) := rfl
  have k114 : zKm 113 = (1, 10) := rfl
  have k115 : zKm 114 = (1, 10) := rfl
  unfold f_X7_fills
  rw [r31, zbd_s, zdr_s (t := 1) (by rw [k114]), zbd_s, zrd_s (by rw [k114]; exact hg) (by rw [k114]; decide), zbd_s, hf, if_neg (by decide), r30, zbd_s, zdr_s (t := 1) (by rw [k113]), zbd_s, zwr_s (by rw [k113]; exact hg) (by rw [k113]; decide), zbd_s, zbd_s, zdr_s (t := 1) (by rw [k114]), zbd_s, zwr_s (by rw [k114]; exact hg) (by rw [k114]; decide), zbd_s, r32, zbd_s, zdr_s (t := 1) (by rw [k115]), zbd_s, zwr_s (by rw [k115]; exact hg) (by rw [k115]; decide), zbd_s]
end ZFI
