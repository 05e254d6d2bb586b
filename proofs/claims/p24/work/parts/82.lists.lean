/-! NODES in a row make ONE TERM: each node (sort, number, what its arguments are: depth, and whether a sequence hole) -/
abbrev zNd : Type := Nat × Nat × List (Nat × Bool)
def stp (s : List (Nat × Bool)) (v : zNd) : List (Nat × Bool) := v.2.2 ++ s.tail
/-- what is still to come behind these nodes -/
def stL (L : List zNd) : List (Nat × Bool) := L.foldl stp [(0, false)]
theorem stL_snoc (L : List zNd) (v : zNd) : stL (L ++ [v]) = v.2.2 ++ (stL L).tail := by simp [stL, List.foldl_append, stp]
def oneS (c : List (Nat × Bool)) : Prop := ∀ (k l x y : Nat), c[k]? = some (x, true) → c[l]? = some (y, true) → k = l
def okV (d : Nat) (g : Bool) (v : zNd) : Prop := (v.1 = 3 ↔ g = true) ∧ (∀ x, x ∈ v.2.2 → x.1 = d + 1) ∧ oneS v.2.2
def okL (L : List zNd) : Prop := ∀ i v, L[i]? = some v → ∃ d g s, stL (L.take i) = (d, g) :: s ∧ okV d g v
theorem okL_nil : okL [] := fun i v h => by simp at h
theorem okL_snoc {L : List zNd} (h : okL L) {v : zNd} {d : Nat} {g : Bool} {s : List (Nat × Bool)} (hs : stL L = (d, g) :: s) (hv : okV d g v) : okL (L ++ [v]) := by
  intro i w hw
  by_cases hi : i < L.length
  · rw [List.getElem?_append_left hi] at hw
    rw [List.take_append_of_le_length (by omega)]
    exact h i w hw
  · by_cases hi2 : i = L.length
    · subst hi2
      rw [List.getElem?_append_right (Nat.le_refl _), Nat.sub_self] at hw
      simp only [List.getElem?_cons_zero, Option.some.injEq] at hw
      subst hw
      rw [List.take_append_of_le_length (Nat.le_refl _), List.take_length]
      exact ⟨d, g, s, hs, hv⟩
    · rw [List.getElem?_eq_none (by simp; omega)] at hw
      cases hw
theorem stL_take_succ {L : List zNd} {i : Nat} {v : zNd} (h : L[i]? = some v) : stL (L.take (i + 1)) = v.2.2 ++ (stL (L.take i)).tail := by
  rw [List.take_succ, h]
  exact stL_snoc _ _
theorem wk_congr {sp sp' : Nat → Nat} {b : Nat} (h : ∀ j, b ≤ j → sp j = sp' j) : ∀ k j, b ≤ j → wk sp k j = wk sp' k j := by
  intro k
  induction k with
  | zero => intro j _; rfl
  | succ k ih =>
    intro j hj
    show wk sp k (j + sp j) = wk sp' k (j + sp' j)
    rw [← h j hj]
    exact ih _ (by omega)
def arL (L : List zNd) (i : Nat) : Nat := match L[i]? with | none => 0 | some v => v.2.2.length
/-- walking over the arguments of a node -/
theorem walkL {L : List zNd} (hL : okL L) (he : stL L = []) {sp : Nat → Nat} {b : Nat} (hsp : ∀ j, b ≤ j → j < L.length → j + sp j ≤ L.length ∧ stL (L.take (j + sp j)) = (stL (L.take j)).tail) {c s : List (Nat × Bool)} {i : Nat} (hb : b ≤ i) (hi : i ≤ L.length) (hs : stL (L.take i) = c ++ s) : ∀ k, k ≤ c.length → wk sp k i ≤ L.length ∧ stL (L.take (wk sp k i)) = c.drop k ++ s := by
  intro k
  induction k with
  | zero => intro _; exact ⟨hi, by rw [List.drop_zero]; exact hs⟩
  | succ k ih =>
    intro hk
    obtain ⟨h1, h2⟩ := ih (by omega)
    have hlt : wk sp k i < L.length := by
      rcases Nat.lt_or_ge (wk sp k i) L.length with h | h
      · exact h
      · exfalso
        rw [List.take_of_length_le h, he] at h2
        have := congrArg List.length h2
        simp only [List.length_nil, List.length_append, List.length_drop] at this
        omega
    obtain ⟨h3, h4⟩ := hsp _ (Nat.le_trans hb (wk_le sp k i)) hlt
    rw [wk_succ]
    refine ⟨h3, ?_⟩
    rw [h4, h2]
    have hd : c.drop k = c[k] :: c.drop (k + 1) := List.drop_eq_getElem_cons (by omega)
    rw [hd]
    rfl
theorem spansL {L : List zNd} (hL : okL L) (he : stL L = []) : ∀ m i, i + m = L.length → ∃ sp : Nat → Nat, (∀ j, 1 ≤ sp j) ∧ ∀ j, i ≤ j → j < L.length → (j + sp j ≤ L.length ∧ stL (L.take (j + sp j)) = (stL (L.take j)).tail) ∧ wk sp (arL L j) (j + 1) = j + sp j := by
  intro m
  induction m with
  | zero => intro i hi; exact ⟨fun _ => 1, fun _ => Nat.le_refl _, fun j h1 h2 => by omega⟩
  | succ m ih =>
    intro i hi
    obtain ⟨sp, p1, p2⟩ := ih (i + 1) (by omega)
    have hil : i < L.length := by omega
    have hv : L[i]? = some L[i] := List.getElem?_eq_getElem hil
    have har : arL L i = L[i].2.2.length := by unfold arL; rw [hv]
    obtain ⟨h1, h2⟩ := walkL hL he (b := i + 1) (fun j a b => (p2 j a b).1) (Nat.le_refl _) hil (stL_take_succ hv) L[i].2.2.length (Nat.le_refl _)
    rw [List.drop_length, List.nil_append, ← har] at h2
    rw [← har] at h1
    have hw := wk_le sp (arL L i) (i + 1)
    refine ⟨fun j => if j = i then wk sp (arL L i) (i + 1) - i else sp j, fun j => ?_, fun j a b => ?_⟩
    · dsimp only
      by_cases hj : j = i
      · rw [if_pos hj]; omega
      · rw [if_neg hj]; exact p1 j
    · have hc : ∀ k x, i + 1 ≤ x → wk (fun j => if j = i then wk sp (arL L i) (i + 1) - i else sp j) k x = wk sp k x := fun k x hx => (wk_congr (b := i + 1) (fun y hy => (if_neg (show ¬ y = i by omega)).symm) k x hx).symm
      rw [hc _ _ (by omega)]
      dsimp only
      by_cases hj : j = i
      · subst hj
        rw [if_pos rfl, show j + (wk sp (arL L j) (j + 1) - j) = wk sp (arL L j) (j + 1) by omega]
        exact ⟨⟨h1, h2⟩, rfl⟩
      · rw [if_neg hj]
        exact p2 j (by omega) b
def vAt (L : List zNd) (i : Nat) : zNd := match L[i]? with | none => (0, 0, []) | some v => v
theorem vAt_of {L : List zNd} {i : Nat} {v : zNd} (h : L[i]? = some v) : vAt L i = v := by unfold vAt; rw [h]
theorem vAt_some {L : List zNd} {i : Nat} (h : i < L.length) : L[i]? = some (vAt L i) := by
  rw [vAt_of (List.getElem?_eq_getElem h)]
  exact List.getElem?_eq_getElem h
def dpL (L : List zNd) (i : Nat) : Nat := match stL (L.take i) with | [] => 0 | x :: _ => x.1
/-- THE TERM of a row of nodes -/
theorem tm_of_list {L : List zNd} (hL : okL L) (he : stL L = []) (h32 : L.length ≤ 32) : ∃ T : Tm, tn T = L.length ∧ (∀ i, i < L.length → ts T i = (vAt L i).1 ∧ tg T i = (vAt L i).2.1 ∧ tr T i = (vAt L i).2.2.length ∧ tdp T i = dpL L i) ∧ tSh T ∧ ts T 0 ≠ 3 ∧ ∀ i, i < tn T → ∀ k l, k < tr T i → l < tr T i → ts T (tc T i k) = 3 → ts T (tc T i l) = 3 → k = l := by
  obtain ⟨sp, p1, p2⟩ := spansL hL he L.length 0 (Nat.zero_add _)
  have h0 : 0 < L.length := by
    rcases Nat.lt_or_ge 0 L.length with h | h
    · exact h
    · have : L = [] := List.eq_nil_of_length_eq_zero (by omega)
      subst this
      simp [stL] at he
  have hch : ∀ i, i < L.length → ∀ k, k < (vAt L i).2.2.length → wk sp k (i + 1) < L.length ∧ ∃ x s, (vAt L i).2.2[k]? = some x ∧ stL (L.take (wk sp k (i + 1))) = x :: s := fun i hi k hk => by
    obtain ⟨h1, h2⟩ := walkL hL he (b := 0) (fun j a b => (p2 j a b).1) (Nat.zero_le _) (show i + 1 ≤ L.length from hi) (stL_take_succ (vAt_some hi)) k (by omega)
    have hd : (vAt L i).2.2.drop k = (vAt L i).2.2[k] :: (vAt L i).2.2.drop (k + 1) := List.drop_eq_getElem_cons hk
    rw [hd, List.cons_append] at h2
    refine ⟨?_, _, _, List.getElem?_eq_getElem hk, h2⟩
    rcases Nat.lt_or_ge (wk sp k (i + 1)) L.length with h | h
    · exact h
    · rw [List.take_of_length_le h, he] at h2
      cases h2
  have hdp : ∀ i, i < L.length → ∀ k, k < (vAt L i).2.2.length → dpL L (wk sp k (i + 1)) = dpL L i + 1 := fun i hi k hk => by
    obtain ⟨h1, x, s, h2, h3⟩ := hch i hi k hk
    obtain ⟨d, g, s', h4, -, h5, -⟩ := hL i _ (vAt_some hi)
    unfold dpL
    rw [h3, h4]
    exact h5 x (List.mem_of_getElem? h2)
  refine ⟨(L.length, fun i => (vAt L i).1, fun i => (vAt L i).2.1, fun i => (vAt L i).2.2.length, sp, dpL L), rfl, fun i _ => ⟨rfl, rfl, rfl, rfl⟩, ⟨h0, h32, p1, fun i hi => ⟨(p2 i (Nat.zero_le _) hi).1.1, ?_⟩, ?_, ?_, hdp⟩, ?_, ?_⟩
  · have := (p2 i (Nat.zero_le _) hi).2
    rw [show arL L i = (vAt L i).2.2.length from by unfold arL vAt; cases L[i]? <;> rfl] at this
    exact this
  · have h1 := (p2 0 (Nat.le_refl _) h0).1
    rw [Nat.zero_add] at h1
    have h2 : stL (L.take (sp 0)) = [] := by
      rw [h1.2]
      rfl
    show sp 0 = L.length
    rcases Nat.lt_or_ge (sp 0) L.length with h | h
    · obtain ⟨d, g, s, h4, -⟩ := hL (sp 0) _ (vAt_some h)
      rw [h2] at h4; cases h4
    · omega
  · rfl
  · show (vAt L 0).1 ≠ 3
    intro e
    obtain ⟨d, g, s, h4, h5, -⟩ := hL 0 _ (vAt_some h0)
    have h6 : stL (L.take 0) = [(0, false)] := rfl
    rw [h6] at h4
    have h7 := h5.mp e
    cases h4
    cases h7
  · intro i hi k l hk hl h1 h2
    obtain ⟨a1, x, s, a2, a3⟩ := hch i hi k hk
    obtain ⟨b1, y, s', b2, b3⟩ := hch i hi l hl
    obtain ⟨d, g, s1, c4, c5, -⟩ := hL _ _ (vAt_some a1)
    obtain ⟨d', g', s1', e4, e5, -⟩ := hL _ _ (vAt_some b1)
    obtain ⟨-, -, -, -, -, -, f6⟩ := hL i _ (vAt_some hi)
    have g1 := c5.mp h1
    have g2 := e5.mp h2
    rw [a3] at c4
    rw [b3] at e4
    cases c4
    cases e4
    subst g1
    subst g2
    exact f6 k l _ _ a2 b2
