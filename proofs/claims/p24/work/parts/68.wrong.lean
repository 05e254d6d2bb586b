/-! Two registers asked for at once -/
section ZWR
variable {F : Nat} {J : zI} {RM : zR} {x1 x2 : Int32} {r q : Nat}
theorem X7_wrong1 (K : zK) (h : ¬ ((0 ≤ x1 ∧ x1 ≤ 7) ∧ (0 ≤ x2 ∧ x2 ≤ 7))) : f_X7_wrong F K J RM 89 x1 x2 1 = some (-1) := by
  unfold f_X7_wrong f_X7_wrong_18
  rw [if_neg (by decide)]
  by_cases h1 : 0 ≤ x1 ∧ x1 ≤ 7
  · obtain ⟨r, hr, rfl⟩ := zreg h1
    rw [X7_reg hr, zbd_s, if_neg (by decide), X7_noreg (fun h2 => h ⟨h1, h2⟩), zbd_s, if_pos rfl]
  · rw [X7_noreg h1, zbd_s, if_pos rfl]
theorem X7_wrong2 (hR0 : RM 89 0 = some 90) (hr : r < 8) (hq : q < 8) (h : J 90 (97 * r) = 0 ∨ J 90 (97 * q) = 0) : f_X7_wrong F zKm J RM 89 (nI r) (nI q) 1 = some (-2) := by
  unfold f_X7_wrong f_X7_wrong_38
  rw [if_neg (by decide), X7_reg hr, zbd_s, if_neg (by decide), X7_reg hq, zbd_s, if_neg (by decide), X7_isEmpty hR0 hr, zbd_s]
  by_cases h1 : J 90 (97 * r) = 0
  · rw [if_pos h1, if_neg (by decide)]
  · rw [if_neg h1, if_pos rfl, X7_isEmpty hR0 hq, zbd_s, if_pos (h.resolve_left h1), if_neg (by decide)]
theorem X7_wrong0 (hR0 : RM 89 0 = some 90) (hr : r < 8) (hq : q < 8) (h1 : ¬ J 90 (97 * r) = 0) (h2 : ¬ J 90 (97 * q) = 0) : f_X7_wrong F zKm J RM 89 (nI r) (nI q) 1 = some 0 := by
  unfold f_X7_wrong
  rw [if_neg (by decide), X7_reg hr, zbd_s, if_neg (by decide), X7_reg hq, zbd_s, if_neg (by decide), X7_isEmpty hR0 hr, zbd_s, if_neg h1, if_pos rfl, X7_isEmpty hR0 hq, zbd_s, if_neg h2, if_pos rfl]
end ZWR
/-- what both matchers must do together, said of one pair of terms: the same answer, and nothing that zSim speaks of is touched -/
def zMatch (F : Nat) : Prop := ∀ (K : zK) (I : zI) (R : zR) (J : zI) (RM : zR) (t u r q : Nat) (T U : Tm), zCf K R → (∀ a k, 89 ≤ a → a < 121 → k < 39 → RM a k = zRt a k) → 92 ≤ t → 92 ≤ u → r < 8 → q < 8 → tWF T → tWF U → zTc K I R t T → zTc K I R u U → zTm (J 90) (97 * r) T → zTm (J 90) (97 * q) U →
  ∃ (v : Int32) (I1 : zI) (R1 : zR) (J1 : zI), f_X1_matches F K I R 41 (some t) (some u) = some (v, I1, R1) ∧ f_X7_matches F zKm J RM 89 (nI (97 * r)) (nI (97 * q)) = some (v, J1) ∧ (∀ b, b < 50 ∨ 55 < b → I1 b = I b) ∧ (∀ b k, ¬ (b = 41 ∧ k < 2) → R1 b k = R b k) ∧ (∀ b, b = 90 ∨ b = 91 → J1 b = J b) ∧ ∀ k, k < 6 → J1 89 k = J 89 k
