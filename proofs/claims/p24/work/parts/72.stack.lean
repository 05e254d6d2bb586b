/-! THE STACK of the reference -/
def zPush (J : zI) (s : Nat) (e : Int32 × Int32 × Int32 × Int32 × Int32) : zI := zup (zup (zup (zup (zup (zup J 107 s e.1) 108 s e.2.1) 110 s e.2.2.1) 109 s e.2.2.2.1) 111 s e.2.2.2.2) 89 29 (nI (s + 1))
theorem X7_pushes {F : Nat} {J : zI} {RM : zR} {s : Nat} (hRM : ∀ a k, 89 ≤ a → a < 121 → k < 39 → RM a k = zRt a k) (hs : s < 160) (hJ : J 89 29 = nI s) {x1 : Int32} (h1 : x1 = 0 ∨ x1 = 1) (x2 x3 x4 x5 : Int32) : f_X7_pushes F zKm J RM 89 x1 x2 x3 x4 x5 = some (zPush J s (x1, x2, x3, x4, x5)) := by
  have r24 : RM 89 24 = some 107 := hRM 89 24 (by decide) (by decide) (by decide)
  have r25 : RM 89 25 = some 108 := hRM 89 25 (by decide) (by decide) (by decide)
  have r26 : RM 89 26 = some 109 := hRM 89 26 (by decide) (by decide) (by decide)
  have r27 : RM 89 27 = some 110 := hRM 89 27 (by decide) (by decide) (by decide)
  have r28 : RM 89 28 = some 111 := hRM 89 28 (by decide) (by decide) (by decide)
  have k108 : zKm 107 = (2, 160) := rfl
  have k109 : zKm 108 = (1, 160) := rfl
  have k110 : zKm 109 = (1, 160) := rfl
  have k111 : zKm 110 = (1, 160) := rfl
  have k112 : zKm 111 = (1, 160) := rfl
  unfold f_X7_pushes zPush
  rw [r24, zbd_s, zdr_s (t := 2) (by rw [k108]), zbd_s, hJ, zwrZ_s (by rw [k108]; exact hs) (by rw [k108]; decide) h1, zbd_s, r25, zbd_s, zdr_s (t := 1) (by rw [k109]), zbd_s, zup_ne _ _ _ (show (89 : Nat) ≠ 107 by decide), hJ, zwr_s (by rw [k109]; exact hs) (by rw [k109]; decide), zbd_s, r27, zbd_s, zdr_s (t := 1) (by rw [k111]), zbd_s, zup_ne _ _ _ (show (89 : Nat) ≠ 108 by decide), zup_ne _ _ _ (show (89 : Nat) ≠ 107 by decide), hJ, zwr_s (by rw [k111]; exact hs) (by rw [k111]; decide), zbd_s, r26, zbd_s, zdr_s (t := 1) (by rw [k110]), zbd_s, zup_ne _ _ _ (show (89 : Nat) ≠ 110 by decide), zup_ne _ _ _ (show (89 : Nat) ≠ 108 by decide), zup_ne _ _ _ (show (89 : Nat) ≠ 107 by decide), hJ, zwr_s (by rw [k110]; exact hs) (by rw [k110]; decide), zbd_s, r28, zbd_s, zdr_s (t := 1) (by rw [k112]), zbd_s, zup_ne _ _ _ (show (89 : Nat) ≠ 109 by decide), zup_ne _ _ _ (show (89 : Nat) ≠ 110 by decide), zup_ne _ _ _ (show (89 : Nat) ≠ 108 by decide), zup_ne _ _ _ (show (89 : Nat) ≠ 107 by decide), hJ, zwr_s (by rw [k112]; exact hs) (by rw [k112]; decide), zbd_s, zbd_s, zup_ne _ _ _ (show (89 : Nat) ≠ 111 by decide), zup_ne _ _ _ (show (89 : Nat) ≠ 109 by decide), zup_ne _ _ _ (show (89 : Nat) ≠ 110 by decide), zup_ne _ _ _ (show (89 : Nat) ≠ 108 by decide), zup_ne _ _ _ (show (89 : Nat) ≠ 107 by decide), hJ, nI_1]
