/-! TERMS as numbers: n nodes; sort, number, arguments, span, depth of each -/
abbrev Tm : Type := Nat × (Nat → Nat) × (Nat → Nat) × (Nat → Nat) × (Nat → Nat) × (Nat → Nat)
abbrev tn (T : Tm) : Nat := T.1
abbrev ts (T : Tm) : Nat → Nat := T.2.1
abbrev tg (T : Tm) : Nat → Nat := T.2.2.1
abbrev tr (T : Tm) : Nat → Nat := T.2.2.2.1
abbrev tsp (T : Tm) : Nat → Nat := T.2.2.2.2.1
abbrev tdp (T : Tm) : Nat → Nat := T.2.2.2.2.2
/-- behind k terms from j on, by their spans -/
def wk (sp : Nat → Nat) : Nat → Nat → Nat
  | 0, j => j
  | k + 1, j => wk sp k (j + sp j)
theorem wk_succ (sp : Nat → Nat) (k j : Nat) : wk sp (k + 1) j = wk sp k j + sp (wk sp k j) := by
  induction k generalizing j with
  | zero => rfl
  | succ k ih =>
    show wk sp (k + 1) (j + sp j) = _
    rw [ih]
    rfl
theorem wk_le (sp : Nat → Nat) (k j : Nat) : j ≤ wk sp k j := by
  induction k generalizing j with
  | zero => exact Nat.le_refl _
  | succ k ih => exact Nat.le_trans (Nat.le_add_right _ _) (ih (j + sp j))
theorem wk_mono (sp : Nat → Nat) {k l : Nat} (h : k ≤ l) (j : Nat) : wk sp k j ≤ wk sp l j := by
  induction l with
  | zero => rw [Nat.le_zero.mp h]; exact Nat.le_refl _
  | succ l ih =>
    rcases Nat.lt_or_ge l k with h1 | h1
    · rw [Nat.le_antisymm h h1]; exact Nat.le_refl _
    · rw [wk_succ]
      exact Nat.le_trans (ih h1) (Nat.le_add_right _ _)
/-- the k-th argument of node i -/
abbrev tc (T : Tm) (i k : Nat) : Nat := wk (tsp T) k (i + 1)
def tcode (T : Tm) (i : Nat) : Nat := ts T i * 256 + tg T i * 16 + tr T i
/-- spans and depths are those of ONE term -/
def tSh (T : Tm) : Prop := 1 ≤ tn T ∧ tn T ≤ 32 ∧ (∀ i, 1 ≤ tsp T i) ∧ (∀ i, i < tn T → i + tsp T i ≤ tn T ∧ wk (tsp T) (tr T i) (i + 1) = i + tsp T i) ∧ tsp T 0 = tn T ∧ tdp T 0 = 0 ∧ (∀ i, i < tn T → ∀ k, k < tr T i → tdp T (tc T i k) = tdp T i + 1)
def tNd (T : Tm) : Prop := ∀ i, i < tn T → ts T i ≤ 3 ∧ tr T i ≤ 8 ∧ (ts T i = 0 → tg T i ≤ 12) ∧ (ts T i ≠ 0 → tg T i ≤ 9) ∧ (ts T i = 1 ∨ ts T i = 3 → tr T i = 0) ∧ (ts T i = 2 → 1 ≤ tr T i) ∧ tdp T i ≤ 7
def tHl (T : Tm) : Prop := (∀ i j, i < tn T → j < tn T → ts T i ≠ 0 → ts T j ≠ 0 → tg T i = tg T j → ts T i = ts T j) ∧ ts T 0 ≠ 3 ∧ ∀ i, i < tn T → ∀ k l, k < tr T i → l < tr T i → ts T (tc T i k) = 3 → ts T (tc T i l) = 3 → k = l
def tWF (T : Tm) : Prop := tSh T ∧ tNd T ∧ tHl T
/-- the class holds T in the object at t -/
def zTc (K : zK) (I : zI) (R : zR) (t : Nat) (T : Tm) : Prop :=
  K t = (15, 0) ∧ K (t + 1) = (1, 32) ∧ K (t + 2) = (1, 32) ∧ K (t + 3) = (1, 32) ∧ R t 0 = some (t + 1) ∧ R t 1 = some (t + 2) ∧ R t 2 = some (t + 3) ∧ I t 3 = nI (tn T) ∧
  ∀ i, i < tn T → I (t + 1) i = nI (tcode T i) ∧ I (t + 2) i = nI (tsp T i) ∧ I (t + 3) i = nI (tdp T i)
/-- the reference's page P holds T in the row at o -/
def zTm (P : Nat → Int32) (o : Nat) (T : Tm) : Prop := P o = nI (tn T) ∧ ∀ i, i < tn T → P (o + 1 + 3 * i) = nI (ts T i) ∧ P (o + 2 + 3 * i) = nI (tg T i) ∧ P (o + 3 + 3 * i) = nI (tr T i)
/-- a register of both -/
def zRg (K : zK) (I : zI) (R : zR) (n : Nat) (x : Option Nat) (P : Nat → Int32) (o : Nat) : Prop := match x with
  | none => P o = 0
  | some t => 92 ≤ t ∧ t + 4 ≤ n ∧ ∃ T, tWF T ∧ zTc K I R t T ∧ zTm P o T
/-- registers and settings: the class's State at a (its rows at a + 1, a + 2), the reference's block at o -/
def zSt (K : zK) (I : zI) (R : zR) (n a : Nat) (P : Nat → Int32) (o : Nat) : Prop :=
  (∀ r, r < 8 → zRg K I R n (R (a + 1) r) P (o + 97 * r)) ∧ (∀ k, k < 4 → I (a + 2) k = P (o + 776 + k)) ∧
  (∀ k, k < 2 → P (o + 776 + k) = 0 ∨ P (o + 776 + k) = 1) ∧ ∀ k, k < 4 → 0 ≤ P (o + 776 + k) ∧ P (o + 776 + k) ≤ 8191
def zKm : zK := fun a => if a < 89 then (0, 0) else zKt a
/-- the class's references that never change -/
def zFin (a k : Nat) : Prop := a < 89 ∧ ((a = 0 ∧ k < 12) ∨ (a = 6 ∧ 6 ≤ k ∧ k < 9) ∨ (a = 15 ∧ k < 6) ∨ (a = 21 ∧ 6 ≤ k ∧ k < 13) ∨ ((a = 41 ∨ a = 56) ∧ 2 ≤ k ∧ k < 8) ∨ ((a = 2 ∨ a = 71 ∨ a = 74 ∨ a = 77 ∨ a = 80 ∨ a = 83 ∨ a = 86) ∧ k < 2))
/-- the States of the history -/
def zHa (a : Nat) : Prop := a = 71 ∨ a = 74 ∨ a = 77 ∨ a = 80 ∨ a = 83 ∨ a = 86
/-- THE RELATION between the two sides -/
def zSim : zSimT := fun _ K I R n KM J RM =>
  (92 ≤ n ∧ (∀ a, a < 89 → K a = zKt a) ∧ (∀ a, 89 ≤ a → a < 89 → K a = (0, 0)) ∧ (∀ a, n ≤ a → K a = (0, 0)) ∧ (∀ a k, zFin a k → R a k = zRt a k) ∧ KM = zKm ∧ ∀ a k, 89 ≤ a → a < 121 → k < 39 → RM a k = zRt a k) ∧
  (∃ b, b ≤ 80 ∧ I 0 1 = nI b ∧ J 89 3 = nI b ∧ ∀ i, i < b → I 1 i = J 91 i) ∧ I 0 2 = J 89 4 ∧
  zSt K I R n 2 (J 90) 0 ∧
  ∃ h, h ≤ 6 ∧ I 0 5 = nI h ∧ J 89 1 = nI h ∧ (∀ j, j < 6 → ∃ a, R 5 j = some a ∧ zHa a ∧ (j < h → zSt K I R n a (J 90) (780 * (j + 1)))) ∧ ∀ i j, i < 6 → j < 6 → R 5 i = R 5 j → i = j
