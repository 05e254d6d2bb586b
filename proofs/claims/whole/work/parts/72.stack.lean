/-! THE STACK of the reference -/
def zPush (J : zI) (s : Nat) (e : Int32 × Int32 × Int32 × Int32 × Int32) : zI := zup (zup (zup (zup (zup (zup J 108 s e.1) 109 s e.2.1) 111 s e.2.2.1) 110 s e.2.2.2.1) 112 s e.2.2.2.2) 90 29 (nI (s + 1))
theorem X7_pushes {F : Nat} {J : zI} {RM : zR} {s : Nat} (hRM : ∀ a k, 90 ≤ a → a < 122 → k < 39 → RM a k = zRt a k) (hs : s < 160) (hJ : J 90 29 = nI s) {x1 : Int32} (h1 : x1 = 0 ∨ x1 = 1) (x2 x3 x4 x5 : Int32) : f_X7_pushes F zKm J RM 90 x1 x2 x3 x4 x5 = some (zPush J s (x1, x2, x3, x4, x5)) := by
  have r24 : RM 90 24 = some 108 := hRM 90 24 (by decide) (by decide) (by decide)
  have r25 : RM 90 25 = some 109 := hRM 90 25 (by decide) (by decide) (by decide)
  have r26 : RM 90 26 = some 110 := hRM 90 26 (by decide) (by decide) (by decide)
  have r27 : RM 90 27 = some 111 := hRM 90 27 (by decide) (by decide) (by decide)
  have r28 : RM 90 28 = some 112 := hRM 90 28 (by decide) (by decide) (by decide)
  have k108 : zKm 108 = (2, 160) := rfl
  have k109 : zKm 109 = (1, 160) := rfl
  have k110 : zKm 110 = (1, 160) := rfl
  have k111 : zKm 111 = (1, 160) := rfl
  have k112 : zKm 112 = (1, 160) := rfl
  unfold f_X7_pushes zPush
  rw [r24, zbd_s, zdr_s (t := 2) (by rw [k108]), zbd_s, hJ, zwrZ_s (by rw [k108]; exact hs) (by rw [k108]; decide) h1, zbd_s, r25, zbd_s, zdr_s (t := 1) (by rw [k109]), zbd_s, zup_ne _ _ _ (show (90 : Nat) ≠ 108 by decide), hJ, zwr_s (by rw [k109]; exact hs) (by rw [k109]; decide), zbd_s, r27, zbd_s, zdr_s (t := 1) (by rw [k111]), zbd_s, zup_ne _ _ _ (show (90 : Nat) ≠ 109 by decide), zup_ne _ _ _ (show (90 : Nat) ≠ 108 by decide), hJ, zwr_s (by rw [k111]; exact hs) (by rw [k111]; decide), zbd_s, r26, zbd_s, zdr_s (t := 1) (by rw [k110]), zbd_s, zup_ne _ _ _ (show (90 : Nat) ≠ 111 by decide), zup_ne _ _ _ (show (90 : Nat) ≠ 109 by decide), zup_ne _ _ _ (show (90 : Nat) ≠ 108 by decide), hJ, zwr_s (by rw [k110]; exact hs) (by rw [k110]; decide), zbd_s, r28, zbd_s, zdr_s (t := 1) (by rw [k112]), zbd_s, zup_ne _ _ _ (show (90 : Nat) ≠ 110 by decide), zup_ne _ _ _ (show (90 : Nat) ≠ 111 by decide), zup_ne _ _ _ (show (90 : Nat) ≠ 109 by decide), zup_ne _ _ _ (show (90 : Nat) ≠ 108 by decide), hJ, zwr_s (by rw [k112]; exact hs) (by rw [k112]; decide), zbd_s, zbd_s, zup_ne _ _ _ (show (90 : Nat) ≠ 112 by decide), zup_ne _ _ _ (show (90 : Nat) ≠ 110 by decide), zup_ne _ _ _ (show (90 : Nat) ≠ 111 by decide), zup_ne _ _ _ (show (90 : Nat) ≠ 109 by decide), zup_ne _ _ _ (show (90 : Nat) ≠ 108 by decide), hJ, nI_1]
