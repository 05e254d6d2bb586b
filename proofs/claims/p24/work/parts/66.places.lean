/-! TERMS on both sides: the k-th argument, the place of the sequence hole -/
def sqf (T : Tm) (i : Nat) : Nat → Nat → Option Nat
  | 0, _ => none
  | d + 1, k => if ts T (tc T i k) = 3 then some k else sqf T i d (k + 1)
/-- where the sequence hole stands among the arguments of node i -/
def sqO (T : Tm) (i : Nat) : Option Nat := sqf T i (tr T i) 0
theorem sqf_lt {T : Tm} {i : Nat} : ∀ d k x, sqf T i d k = some x → k ≤ x ∧ x < k + d ∧ ts T (tc T i x) = 3 := by
  intro d
  induction d with
  | zero => intro k x h; cases h
  | succ d ih =>
    intro k x h
    simp only [sqf] at h
    by_cases h0 : ts T (tc T i k) = 3
    · rw [if_pos h0] at h
      cases h
      exact ⟨Nat.le_refl _, by omega, h0⟩
    · rw [if_neg h0] at h
      obtain ⟨a, b, c⟩ := ih (k + 1) x h
      exact ⟨by omega, by omega, c⟩
theorem sqf_none {T : Tm} {i : Nat} : ∀ d k, sqf T i d k = none → ∀ x, k ≤ x → x < k + d → ts T (tc T i x) ≠ 3 := by
  intro d
  induction d with
  | zero => intro k _ x h1 h2; omega
  | succ d ih =>
    intro k h x h1 h2
    simp only [sqf] at h
    by_cases h0 : ts T (tc T i k) = 3
    · rw [if_pos h0] at h; cases h
    · rw [if_neg h0] at h
      by_cases hx : x = k
      · rw [hx]; exact h0
      · exact ih (k + 1) h x (by omega) (by omega)
section ZPL
variable {F : Nat} {K : zK} {I : zI} {R : zR} {a : Nat} {T : Tm}
theorem argument7 (h : zTc K I R a T) (hT : tWF T) {j m : Nat} (hm : m < 2 ^ 31) (hj : ∀ k, k < m → wk (tsp T) k j < tn T) : ∀ (d x t : Nat), x + d = m → d < t → f_X5_argument_7 F K I R a t (nI m) (nI (wk (tsp T) x j)) (nI x) = some (nI (wk (tsp T) m j)) := by
  have hn := hT.1.2.1
  intro d
  induction d with
  | zero =>
    intro x t hx ht
    obtain ⟨t, rfl⟩ : ∃ u, t = u + 1 := ⟨t - 1, by omega⟩
    show g_X5_argument_7 F K I R a _ (nI m) (nI (wk (tsp T) x j)) (nI x) = _
    unfold g_X5_argument_7
    rw [if_pos (nI_le (by omega) (by omega)), show x = m by omega]
  | succ d ih =>
    intro x t hx ht
    obtain ⟨t, rfl⟩ : ∃ u, t = u + 1 := ⟨t - 1, by omega⟩
    have hw := hj x (by omega)
    have e := ih (x + 1) t (by omega) (by omega)
    show g_X5_argument_7 F K I R a _ (nI m) (nI (wk (tsp T) x j)) (nI x) = _
    unfold g_X5_argument_7
    rw [if_neg (nI_ge (by omega) (by omega)), X5_spanOf h hT hw, zbd_s, zbd_s, nI_add, ← wk_succ, nI_1]
    exact e
theorem X5_argument (h : zTc K I R a T) (hT : tWF T) (hF : 100 ≤ F) {i m : Nat} (hm : m ≤ 32) (hj : ∀ k, k < m → wk (tsp T) k (i + 1) < tn T) : f_X5_argument F K I R a (nI i) (nI m) = some (nI (wk (tsp T) m (i + 1))) := by
  unfold f_X5_argument
  rw [zbd_s, nI_1]
  exact argument7 h hT (by omega) hj m 0 F (by omega) (by omega)
theorem place13 (h : zTc K I R a T) (hT : tWF T) {i : Nat} (hi : i < tn T) : ∀ (d x t : Nat), x + d = tr T i → d < t → f_X5_sequencePlace_13 F K I R a t (nI (tc T i x)) (nI (tr T i)) (nI x) = some (match sqf T i d x with | none => -1 | some k => nI k) := by
  have hn := hT.1.2.1
  have hr := tWF_r hT i hi
  intro d
  induction d with
  | zero =>
    intro x t hx ht
    obtain ⟨t, rfl⟩ : ∃ u, t = u + 1 := ⟨t - 1, by omega⟩
    show g_X5_sequencePlace_13 F K I R a _ (nI (tc T i x)) (nI (tr T i)) (nI x) = _
    unfold g_X5_sequencePlace_13
    rw [if_pos (nI_le (by omega) (by omega))]
    rfl
  | succ d ih =>
    intro x t hx ht
    obtain ⟨t, rfl⟩ : ∃ u, t = u + 1 := ⟨t - 1, by omega⟩
    obtain ⟨c1, c2, c3⟩ := tc_lt hT.1 hi (show x < tr T i by omega)
    have e := ih (x + 1) t (by omega) (by omega)
    have h4 := (hT.2.1 _ c3).1
    have hw : tc T i x + tsp T (tc T i x) = tc T i (x + 1) := (wk_succ (tsp T) x (i + 1)).symm
    show g_X5_sequencePlace_13 F K I R a _ (nI (tc T i x)) (nI (tr T i)) (nI x) = _
    unfold g_X5_sequencePlace_13
    rw [if_neg (nI_ge (by omega) (by omega)), X5_sortOf h hT c3, zbd_s]
    simp only [sqf]
    by_cases h0 : ts T (tc T i x) = 3
    · rw [if_pos h0, if_pos (show nI (ts T (tc T i x)) = 3 by rw [h0]; rfl)]
    · rw [if_neg h0, if_neg (show ¬ (nI (ts T (tc T i x)) = (3 : Int32)) from fun e => h0 (nI_inj (b := 3) (by omega) (by omega) e)), X5_spanOf h hT c3, zbd_s, zbd_s, nI_add, hw, nI_1]
      exact e
theorem X5_sequencePlace (h : zTc K I R a T) (hT : tWF T) (hF : 100 ≤ F) {i : Nat} (hi : i < tn T) : f_X5_sequencePlace F K I R a (nI i) = some (match sqO T i with | none => -1 | some k => nI k) := by
  have hr := tWF_r hT i hi
  unfold f_X5_sequencePlace
  rw [zbd_s, nI_1, X5_argumentsOf h hT hi, zbd_s]
  exact place13 h hT hi (tr T i) 0 F (by omega) (by omega)
end ZPL
section ZPR
variable {F : Nat} {J : zI} {RM : zR} {o w : Nat} {T : Tm}
theorem child8 (hw : zKm w = (1, 32)) (hT : tWF T) (hJ : ∀ j, j < tn T → J w j = nI (tsp T j)) {j m : Nat} (hm : m < 2 ^ 31) (hj : ∀ k, k < m → wk (tsp T) k j < tn T) : ∀ (d x t : Nat), x + d = m → d < t → f_X7_child_8 F zKm J RM 89 t (nI m) (some w) (nI (wk (tsp T) x j)) (nI x) = some (nI (wk (tsp T) m j)) := by
  have hn := hT.1.2.1
  intro d
  induction d with
  | zero =>
    intro x t hx ht
    obtain ⟨t, rfl⟩ : ∃ u, t = u + 1 := ⟨t - 1, by omega⟩
    show g_X7_child_8 F zKm J RM 89 _ (nI m) (some w) (nI (wk (tsp T) x j)) (nI x) = _
    unfold g_X7_child_8
    rw [if_pos (nI_le (by omega) (by omega)), show x = m by omega]
  | succ d ih =>
    intro x t hx ht
    obtain ⟨t, rfl⟩ : ∃ u, t = u + 1 := ⟨t - 1, by omega⟩
    have hk := hj x (by omega)
    have e := ih (x + 1) t (by omega) (by omega)
    show g_X7_child_8 F zKm J RM 89 _ (nI m) (some w) (nI (wk (tsp T) x j)) (nI x) = _
    unfold g_X7_child_8
    rw [if_neg (nI_ge (by omega) (by omega)), zdr_s (t := 1) (by rw [hw]), zbd_s, zrd_s (by rw [hw]; show wk (tsp T) x j < 32; omega) (by rw [hw]; decide), zbd_s, hJ _ hk, zbd_s, nI_add, ← wk_succ, nI_1]
    exact e
theorem X7_child (hw : zKm w = (1, 32)) (hT : tWF T) (hF : 100 ≤ F) (hJ : ∀ j, j < tn T → J w j = nI (tsp T j)) {i m : Nat} (hm : m ≤ 32) (hj : ∀ k, k < m → wk (tsp T) k (i + 1) < tn T) : f_X7_child F zKm J RM 89 (nI i) (nI m) (some w) = some (nI (wk (tsp T) m (i + 1))) := by
  unfold f_X7_child
  rw [zbd_s, nI_1]
  exact child8 hw hT hJ (by omega) hj m 0 F (by omega) (by omega)
theorem sequence8 (hR0 : RM 89 0 = some 90) (ho : o + 97 ≤ 5751) (h : zTm (J 90) o T) (hw : zKm w = (1, 32)) (hT : tWF T) (hJ : ∀ j, j < tn T → J w j = nI (tsp T j)) {i : Nat} (hi : i < tn T) : ∀ (d x t : Nat), x + d = tr T i → d < t → f_X7_sequenceOf_8 F zKm J RM 89 t (nI o) (nI i) (some w) (nI (tc T i x)) (nI x) = some (match sqf T i d x with | none => -9 | some k => nI k) := by
  have hn := hT.1.2.1
  have hr := tWF_r hT i hi
  intro d
  induction d with
  | zero =>
    intro x t hx ht
    obtain ⟨t, rfl⟩ : ∃ u, t = u + 1 := ⟨t - 1, by omega⟩
    show g_X7_sequenceOf_8 F zKm J RM 89 _ (nI o) (nI i) (some w) (nI (tc T i x)) (nI x) = _
    unfold g_X7_sequenceOf_8
    rw [X7_arguments hR0 ho h hn hi, zbd_s, if_pos (nI_le (by omega) (by omega))]
    rfl
  | succ d ih =>
    intro x t hx ht
    obtain ⟨t, rfl⟩ : ∃ u, t = u + 1 := ⟨t - 1, by omega⟩
    obtain ⟨c1, c2, c3⟩ := tc_lt hT.1 hi (show x < tr T i by omega)
    have e := ih (x + 1) t (by omega) (by omega)
    have h4 := (hT.2.1 _ c3).1
    have hs : tc T i x + tsp T (tc T i x) = tc T i (x + 1) := (wk_succ (tsp T) x (i + 1)).symm
    have c4 : tc T i x < 32 := Nat.lt_of_lt_of_le c3 hn
    show g_X7_sequenceOf_8 F zKm J RM 89 _ (nI o) (nI i) (some w) (nI (tc T i x)) (nI x) = _
    unfold g_X7_sequenceOf_8
    rw [X7_arguments hR0 ho h hn hi, zbd_s, if_neg (nI_ge (by omega) (by omega)), X7_sort hR0 ho h hn c3, zbd_s]
    simp only [sqf]
    by_cases h0 : ts T (tc T i x) = 3
    · rw [if_pos h0, if_pos (show nI (ts T (tc T i x)) = 3 by rw [h0]; rfl)]
    · rw [if_neg h0, if_neg (show ¬ (nI (ts T (tc T i x)) = (3 : Int32)) from fun e => h0 (nI_inj (b := 3) (by omega) (by omega) e)), zdr_s (t := 1) (by rw [hw]), zbd_s, zrd_s (by rw [hw]; exact c4) (by rw [hw]; decide), zbd_s, hJ _ c3, zbd_s, nI_add, hs, nI_1]
      exact e
theorem X7_sequenceOf (hR0 : RM 89 0 = some 90) (ho : o + 97 ≤ 5751) (h : zTm (J 90) o T) (hw : zKm w = (1, 32)) (hT : tWF T) (hF : 100 ≤ F) (hJ : ∀ j, j < tn T → J w j = nI (tsp T j)) {i : Nat} (hi : i < tn T) : f_X7_sequenceOf F zKm J RM 89 (nI o) (nI i) (some w) = some (match sqO T i with | none => -9 | some k => nI k) := by
  have hr := tWF_r hT i hi
  unfold f_X7_sequenceOf
  rw [zbd_s, nI_1]
  exact sequence8 hR0 ho h hw hT hJ hi (tr T i) 0 F (by omega) (by omega)
end ZPR
