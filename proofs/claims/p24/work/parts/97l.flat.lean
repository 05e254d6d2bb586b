/-! put(): FLATTENING a forest -/
/-- one forest behind another -/
def qAp : aFo → aFo → aFo
  | .leaf _, b => b
  | .branch w k r, b => .branch w k (qAp r b)
/-- roots that are sequence holes -/
def qSq : aFo → Nat
  | .leaf _ => 0
  | .branch w _ r => (if w / 16 = 3 then 1 else 0) + qSq r
/-- node i: sort, number, arguments -/
def qNd : aFo → Nat → Nat × Nat × Nat
  | .leaf _, _ => (0, 0, 0)
  | .branch w k r, i => if i = 0 then ((w / 16), (w % 16), qLn k) else if i ≤ qSz k then qNd k (i - 1) else qNd r (i - 1 - qSz k)
/-- a node goes into its parent -/
abbrev qDs (fb : Nat → Bool) (s g s' g' r' : Nat) : Prop := s' = 0 ∧ s = 0 ∧ g' = g ∧ 0 < r' ∧ fb g' = true
/-- the flat forest below a parent (s, g) -/
def qFl (fb : Nat → Bool) : Nat → Nat → aFo → aFo
  | _, _, .leaf _ => .leaf ()
  | s, g, .branch w k r => if qDs fb s g (w / 16) (w % 16) (qLn k) then qAp (qFl fb (w / 16) (w % 16) k) (qFl fb s g r) else .branch w (qFl fb (w / 16) (w % 16) k) (qFl fb s g r)
/-- node i goes into its parent -/
def qDAt : Nat → aFo → aFo
  | _, .leaf _ => .leaf ()
  | i, .branch w k r => if i = 0 then qAp k r else if i ≤ qSz k then .branch w (qDAt (i - 1) k) r else .branch w k (qDAt (i - 1 - qSz k) r)
/-- the head of the parent of node i -/
def qPAt : Nat → Nat → Nat → aFo → Nat × Nat
  | s, g, _, .leaf _ => (s, g)
  | s, g, i, .branch w k r => if i = 0 then (s, g) else if i ≤ qSz k then qPAt (w / 16) (w % 16) (i - 1) k else qPAt s g (i - 1 - qSz k) r
theorem q_sz_app (a b : aFo) : qSz (qAp a b) = qSz a + qSz b := by
  induction a with
  | leaf _ => rw [qAp, qSz, Nat.zero_add]
  | branch w k r _ ih => rw [qAp, qSz, ih, qSz]; omega
theorem q_len_app (a b : aFo) : qLn (qAp a b) = qLn a + qLn b := by
  induction a with
  | leaf _ => rw [qAp, qLn, Nat.zero_add]
  | branch w k r _ ih => rw [qAp, qLn, ih, qLn]; omega
theorem q_sq_app (a b : aFo) : qSq (qAp a b) = qSq a + qSq b := by
  induction a with
  | leaf _ => rw [qAp, qSq, Nat.zero_add]
  | branch w k r _ ih => rw [qAp, qSq, ih, qSq]; omega
theorem q_ht_app (a b : aFo) : qHt (qAp a b) = max (qHt a) (qHt b) := by
  induction a with
  | leaf _ => rw [qAp, qHt]; omega
  | branch w k r _ ih => rw [qAp, qHt, ih, qHt]; omega
theorem q_app_assoc (a b c : aFo) : qAp (qAp a b) c = qAp a (qAp b c) := by
  induction a with
  | leaf _ => rfl
  | branch w k r _ ih => rw [qAp, qAp, qAp, ih]
theorem q_app_nil (a : aFo) : qAp a (Lean.RArray.leaf ()) = a := by
  induction a with
  | leaf _ => rfl
  | branch w k r _ ih => rw [qAp, ih]
theorem q_nd_app (a b : aFo) : ∀ i, qNd (qAp a b) i = if i < qSz a then qNd a i else qNd b (i - qSz a) := by
  induction a with
  | leaf _ => intro i; rw [qAp, qSz, if_neg (Nat.not_lt_zero _), Nat.sub_zero]
  | branch w k r _ ih =>
    intro i
    rw [qAp, qNd, qSz]
    by_cases h0 : i = 0
    · rw [if_pos h0, if_pos (by omega), qNd, if_pos h0]
    · rw [if_neg h0]
      by_cases h1 : i ≤ qSz k
      · rw [if_pos h1, if_pos (by omega), qNd, if_neg h0, if_pos h1]
      · rw [if_neg h1, ih]
        by_cases h2 : i < 1 + qSz k + qSz r
        · rw [if_pos h2, if_pos (by omega), qNd, if_neg h0, if_neg h1]
        · rw [if_neg h2, if_neg (by omega)]
          congr 1
          omega
theorem q_len_sz (a : aFo) : qLn a ≤ qSz a := by
  induction a with
  | leaf _ => exact Nat.le_refl _
  | branch w k r _ ih => rw [qLn, qSz]; omega
theorem q_sq_len (a : aFo) : qSq a ≤ qLn a := by
  induction a with
  | leaf _ => exact Nat.le_refl _
  | branch w k r _ ih => rw [qLn, qSq]; by_cases h : (w / 16) = 3 <;> simp only [h, if_true, if_false] <;> omega
theorem q_len_0 {a : aFo} (h : qLn a = 0) : a = (Lean.RArray.leaf ()) := by
  cases a with
  | leaf _ => rfl
  | branch w k r => exact absurd h (by rw [qLn]; omega)
theorem q_at_nd : ∀ (G : aFo) (d i : Nat), (qAt G d i).1 = (qNd G i).1 ∧ (qAt G d i).2.1 = (qNd G i).2.1 ∧ (qAt G d i).2.2.1 = (qNd G i).2.2 := by
  intro G
  induction G with
  | leaf _ => intro d i; exact ⟨rfl, rfl, rfl⟩
  | branch w k r ihk ihr =>
    intro d i
    rw [qAt, qNd]
    by_cases h0 : i = 0
    · rw [if_pos h0, if_pos h0]; exact ⟨rfl, rfl, rfl⟩
    · by_cases h1 : i ≤ qSz k
      · rw [if_neg h0, if_neg h0, if_pos h1, if_pos h1]; exact ihk _ _
      · rw [if_neg h0, if_neg h0, if_neg h1, if_neg h1]; exact ihr _ _
theorem q_nd_len (G : aFo) : ∀ i, i < qSz G → (qNd G i).2.2 + i + 1 ≤ qSz G := by
  induction G with
  | leaf _ => intro i hi; exact absurd hi (Nat.not_lt_zero _)
  | branch w k r ihk ihr =>
    intro i hi
    have hi : i < 1 + qSz k + qSz r := hi
    have e := q_len_sz k
    rw [qNd, qSz]
    by_cases h0 : i = 0
    · rw [if_pos h0]
      show qLn k + i + 1 ≤ _
      omega
    · by_cases h1 : i ≤ qSz k
      · rw [if_neg h0, if_pos h1]
        have := ihk (i - 1) (by omega)
        omega
      · rw [if_neg h0, if_neg h1]
        have := ihr (i - 1 - qSz k) (by omega)
        omega
variable {fb : Nat → Bool}
theorem q_fl_app (a b : aFo) (s g : Nat) : qFl fb s g (qAp a b) = qAp (qFl fb s g a) (qFl fb s g b) := by
  induction a with
  | leaf _ => rfl
  | branch w k r _ ih =>
    rw [qAp, qFl, qFl, ih]
    by_cases h : qDs fb s g (w / 16) (w % 16) (qLn k)
    · rw [if_pos h, if_pos h, q_app_assoc]
    · rw [if_neg h, if_neg h, qAp]
theorem q_dAt_len {G : aFo} : ∀ i, i < qSz G → 0 < (qNd G i).2.2 → 0 < qLn (qDAt i G) := by
  intro i hi hr
  cases G with
  | leaf _ => exact absurd hi (Nat.not_lt_zero _)
  | branch w k r =>
    rw [qNd] at hr
    rw [qDAt]
    by_cases h0 : i = 0
    · rw [if_pos h0] at hr ⊢
      have hr : 0 < qLn k := hr
      rw [q_len_app]; omega
    · rw [if_neg h0] at hr ⊢
      by_cases h1 : i ≤ qSz k
      · rw [if_pos h1, qLn]; omega
      · rw [if_neg h1, qLn]; omega
theorem q_fl_dAt (G : aFo) : ∀ (s g i : Nat), i < qSz G → qDs fb (qPAt s g i G).1 (qPAt s g i G).2 (qNd G i).1 (qNd G i).2.1 (qNd G i).2.2 → qFl fb s g (qDAt i G) = qFl fb s g G := by
  induction G with
  | leaf _ => intro s g i hi; exact absurd hi (Nat.not_lt_zero _)
  | branch w k r ihk ihr =>
    intro s g i hi hd
    have hi : i < 1 + qSz k + qSz r := hi
    rw [qPAt, qNd] at hd
    rw [qDAt]
    by_cases h0 : i = 0
    · rw [if_pos h0, if_pos h0] at hd
      have d1 : (w / 16) = 0 := hd.1
      have d2 : s = 0 := hd.2.1
      have d3 : (w % 16) = g := hd.2.2.1
      rw [if_pos h0, q_fl_app, qFl, if_pos hd, d1, d2, d3]
    · rw [if_neg h0, if_neg h0] at hd
      rw [if_neg h0]
      by_cases h1 : i ≤ qSz k
      · rw [if_pos h1, if_pos h1] at hd
        rw [if_pos h1, qFl, qFl, ihk _ _ _ (by omega) hd]
        have e1 := q_dAt_len (G := k) (i - 1) (by omega) hd.2.2.2.1
        have e2 : 0 < qLn k := by
          cases k with
          | leaf _ => exact absurd h1 (by rw [qSz]; omega)
          | branch w k r => rw [qLn]; omega
        by_cases h : qDs fb s g (w / 16) (w % 16) (qLn k)
        · rw [if_pos h, if_pos ⟨h.1, h.2.1, h.2.2.1, e1, h.2.2.2.2⟩]
        · rw [if_neg h, if_neg (fun h' => h ⟨h'.1, h'.2.1, h'.2.2.1, e2, h'.2.2.2.2⟩)]
      · rw [if_neg h1, if_neg h1] at hd
        rw [if_neg h1, qFl, qFl, ihr _ _ _ (by omega) hd]
theorem q_fl_id (G : aFo) : ∀ (s g : Nat), (∀ i, i < qSz G → ¬ qDs fb (qPAt s g i G).1 (qPAt s g i G).2 (qNd G i).1 (qNd G i).2.1 (qNd G i).2.2) → qFl fb s g G = G := by
  induction G with
  | leaf _ => intro s g _; rfl
  | branch w k r ihk ihr =>
    intro s g h
    have h0 := h 0 (by rw [qSz]; omega)
    rw [qPAt, qNd, if_pos rfl, if_pos rfl] at h0
    have hk : qFl fb (w / 16) (w % 16) k = k := ihk (w / 16) (w % 16) fun i hi => by
      have := h (i + 1) (by rw [qSz]; omega)
      have e0 : ¬ i + 1 = 0 := by omega
      have e1 : i + 1 ≤ qSz k := by omega
      rw [qPAt, qNd, if_neg e0, if_neg e0, if_pos e1, if_pos e1, show i + 1 - 1 = i by omega] at this
      exact this
    have hr : qFl fb s g r = r := ihr s g fun i hi => by
      have := h (i + 1 + qSz k) (by rw [qSz]; omega)
      have e0 : ¬ i + 1 + qSz k = 0 := by omega
      have e1 : ¬ i + 1 + qSz k ≤ qSz k := by omega
      rw [qPAt, qNd, if_neg e0, if_neg e0, if_neg e1, if_neg e1, show i + 1 + qSz k - 1 - qSz k = i by omega] at this
      exact this
    rw [qFl, if_neg h0, hk, hr]
theorem q_dAt_sz (G : aFo) : ∀ i, i < qSz G → qSz (qDAt i G) + 1 = qSz G := by
  induction G with
  | leaf _ => intro i hi; exact absurd hi (Nat.not_lt_zero _)
  | branch w k r ihk ihr =>
    intro i hi
    have hi : i < 1 + qSz k + qSz r := hi
    rw [qDAt, qSz]
    by_cases h0 : i = 0
    · rw [if_pos h0, q_sz_app]; omega
    · rw [if_neg h0]
      by_cases h1 : i ≤ qSz k
      · rw [if_pos h1, qSz]
        have := ihk (i - 1) (by omega)
        omega
      · rw [if_neg h1, qSz]
        have := ihr (i - 1 - qSz k) (by omega)
        omega
/-- parents of earlier nodes stay -/
theorem q_pAt_dAt (G : aFo) : ∀ (s g i x : Nat), i < qSz G → x < i → qPAt s g x (qDAt i G) = qPAt s g x G := by
  induction G with
  | leaf _ => intro s g i x hi; exact absurd hi (Nat.not_lt_zero _)
  | branch w k r ihk ihr =>
    intro s g i x hi hx
    have hi : i < 1 + qSz k + qSz r := hi
    rw [qDAt, if_neg (by omega)]
    by_cases h1 : i ≤ qSz k
    · have e := q_dAt_sz k (i - 1) (by omega)
      rw [if_pos h1, qPAt, qPAt]
      by_cases h2 : x = 0
      · rw [if_pos h2, if_pos h2]
      · rw [if_neg h2, if_neg h2, if_pos (by omega), if_pos (by omega)]
        exact ihk _ _ _ _ (by omega) (by omega)
    · rw [if_neg h1, qPAt, qPAt]
      by_cases h2 : x = 0
      · rw [if_pos h2, if_pos h2]
      · rw [if_neg h2, if_neg h2]
        by_cases h3 : x ≤ qSz k
        · rw [if_pos h3, if_pos h3]
        · rw [if_neg h3, if_neg h3]
          exact ihr _ _ _ _ (by omega) (by omega)
/-- the parent: a root's is q -/
theorem q_par_at (G : aFo) : ∀ (s g q b i : Nat), i < qSz G → (qPar G q b i = q ∧ qPAt s g i G = (s, g)) ∨ (b ≤ qPar G q b i ∧ qPar G q b i < b + i ∧ qPAt s g i G = ((qNd G (qPar G q b i - b)).1, (qNd G (qPar G q b i - b)).2.1)) := by
  induction G with
  | leaf _ => intro s g q b i hi; exact absurd hi (Nat.not_lt_zero _)
  | branch w k r ihk ihr =>
    intro s g q b i hi
    have hi : i < 1 + qSz k + qSz r := hi
    rw [qPar, qPAt]
    by_cases h0 : i = 0
    · rw [if_pos h0, if_pos h0]; exact Or.inl ⟨rfl, rfl⟩
    · rw [if_neg h0, if_neg h0]
      by_cases h1 : i ≤ qSz k
      · rw [if_pos h1, if_pos h1]
        right
        rcases ihk (w / 16) (w % 16) b (b + 1) (i - 1) (by omega) with ⟨c1, c2⟩ | ⟨c1, c2, c3⟩
        · rw [c1, c2, Nat.sub_self, qNd, if_pos rfl]
          exact ⟨Nat.le_refl _, by omega, rfl⟩
        · rw [c3, qNd, if_neg (by omega), if_pos (by omega), show qPar k b (b + 1) (i - 1) - b - 1 = qPar k b (b + 1) (i - 1) - (b + 1) by omega]
          exact ⟨by omega, by omega, rfl⟩
      · rw [if_neg h1, if_neg h1]
        rcases ihr s g q (b + 1 + qSz k) (i - 1 - qSz k) (by omega) with ⟨c1, c2⟩ | ⟨c1, c2, c3⟩
        · exact Or.inl ⟨c1, c2⟩
        · right
          rw [c3, qNd, if_neg (by omega), if_neg (by omega), show qPar r q (b + 1 + qSz k) (i - 1 - qSz k) - b - 1 - qSz k = qPar r q (b + 1 + qSz k) (i - 1 - qSz k) - (b + 1 + qSz k) by omega]
          exact ⟨by omega, by omega, rfl⟩
theorem q_dAt_roots (G : aFo) : ∀ (q b i : Nat), q < b → i < qSz G → 0 < (qNd G i).2.2 → (qPar G q b i = q → qLn (qDAt i G) = qLn G + (qNd G i).2.2 - 1) ∧ (qPar G q b i ≠ q → qLn (qDAt i G) = qLn G) := by
  induction G with
  | leaf _ => intro q b i _ hi; exact absurd hi (Nat.not_lt_zero _)
  | branch w k r ihk ihr =>
    intro q b i hq hi hr
    have hi : i < 1 + qSz k + qSz r := hi
    rw [qNd] at hr
    rw [qPar, qDAt, qNd, qLn]
    by_cases h0 : i = 0
    · rw [if_pos h0] at hr
      rw [if_pos h0, if_pos h0, if_pos h0, q_len_app]
      exact ⟨fun _ => by show _ = 1 + qLn r + qLn k - 1; omega, fun h => absurd rfl h⟩
    · rw [if_neg h0] at hr
      rw [if_neg h0, if_neg h0, if_neg h0]
      by_cases h1 : i ≤ qSz k
      · rw [if_pos h1] at hr
        rw [if_pos h1, if_pos h1, if_pos h1, qLn]
        refine ⟨fun h => ?_, fun _ => rfl⟩
        rcases q_par_at k 0 0 b (b + 1) (i - 1) (by omega) with ⟨c1, -⟩ | ⟨c1, -⟩ <;> omega
      · rw [if_neg h1] at hr
        rw [if_neg h1, if_neg h1, if_neg h1, qLn]
        obtain ⟨c1, c2⟩ := ihr q (b + 1 + qSz k) (i - 1 - qSz k) (by omega) (by omega) hr
        exact ⟨fun h => by rw [c1 h]; omega, fun h => by rw [c2 h]⟩
/-- the row behind a step -/
theorem q_dAt_nd (G : aFo) : ∀ (q b i : Nat), q < b → i < qSz G → 0 < (qNd G i).2.2 → ∀ x, x + 1 < qSz G → qNd (qDAt i G) x = if x < i then (if b + x = qPar G q b i then ((qNd G x).1, (qNd G x).2.1, (qNd G x).2.2 + (qNd G i).2.2 - 1) else qNd G x) else qNd G (x + 1) := by
  induction G with
  | leaf _ => intro q b i _ hi; exact absurd hi (Nat.not_lt_zero _)
  | branch w k r ihk ihr =>
    intro q b i hq hi hr x hx
    have hi : i < 1 + qSz k + qSz r := hi
    have hx : x + 1 < 1 + qSz k + qSz r := hx
    have hr' := hr
    rw [qNd] at hr
    rw [qPar, qDAt]
    by_cases h0 : i = 0
    · rw [if_pos h0, if_neg (show ¬ x < i by omega), q_nd_app, show qNd (Lean.RArray.branch w k r) (x + 1) = (if x + 1 ≤ qSz k then qNd k (x + 1 - 1) else qNd r (x + 1 - 1 - qSz k)) from by rw [qNd, if_neg (by omega)]]
      by_cases h2 : x < qSz k
      · rw [if_pos h2, if_pos (show x + 1 ≤ qSz k by omega), show x + 1 - 1 = x by omega]
      · rw [if_neg h2, if_neg (show ¬ x + 1 ≤ qSz k by omega), show x + 1 - 1 - qSz k = x - qSz k by omega]
    · rw [if_neg h0] at hr
      rw [if_neg h0, if_neg h0]
      by_cases h1 : i ≤ qSz k
      · rw [if_pos h1] at hr
        rw [if_pos h1, if_pos h1]
        have e := q_dAt_sz k (i - 1) (by omega)
        have ei : qNd (Lean.RArray.branch w k r) i = qNd k (i - 1) := by rw [qNd, if_neg h0, if_pos h1]
        rw [ei]
        obtain ⟨c1, c2⟩ := q_dAt_roots k b (b + 1) (i - 1) (by omega) (by omega) hr
        by_cases h2 : x = 0
        · subst h2
          rw [qNd, if_pos rfl, if_pos (by omega), Nat.add_zero]
          by_cases h3 : b = qPar k b (b + 1) (i - 1)
          · rw [if_pos h3, c1 h3.symm, qNd, if_pos rfl]
          · rw [if_neg h3, c2 (fun h => h3 h.symm), qNd, if_pos rfl]
        · rw [qNd, if_neg h2]
          by_cases h3 : x < i
          · rw [if_pos h3, if_pos (by omega), ihk b (b + 1) (i - 1) (by omega) (by omega) hr (x - 1) (by omega), if_pos (by omega), show b + 1 + (x - 1) = b + x by omega]
            rw [show qNd (Lean.RArray.branch w k r) x = qNd k (x - 1) from by rw [qNd, if_neg h2, if_pos (by omega)]]
          · rw [if_neg h3, qNd, if_neg (show ¬ x + 1 = 0 by omega)]
            by_cases h4 : x + 1 ≤ qSz k
            · rw [if_pos (by omega), if_pos h4, ihk b (b + 1) (i - 1) (by omega) (by omega) hr (x - 1) (by omega), if_neg (by omega), show x - 1 + 1 = x + 1 - 1 by omega]
            · rw [if_neg (by omega), if_neg h4, show x - 1 - qSz (qDAt (i - 1) k) = x + 1 - 1 - qSz k by omega]
      · rw [if_neg h1] at hr
        rw [if_neg h1, if_neg h1]
        have ei : qNd (Lean.RArray.branch w k r) i = qNd r (i - 1 - qSz k) := by rw [qNd, if_neg h0, if_neg h1]
        rw [ei]
        have hp : b + 1 + qSz k ≤ qPar r q (b + 1 + qSz k) (i - 1 - qSz k) ∨ qPar r q (b + 1 + qSz k) (i - 1 - qSz k) = q := by
          rcases q_par_at r 0 0 q (b + 1 + qSz k) (i - 1 - qSz k) (by omega) with ⟨c1, -⟩ | ⟨c1, -⟩
          · exact Or.inr c1
          · exact Or.inl c1
        by_cases h2 : x ≤ qSz k
        · have e1 : qNd (Lean.RArray.branch w k (qDAt (i - 1 - qSz k) r)) x = qNd (Lean.RArray.branch w k r) x := by
            rw [qNd, qNd, if_pos h2, if_pos h2]
          rw [e1, if_pos (by omega), if_neg (by omega)]
        · rw [qNd, if_neg (by omega), if_neg h2, ihr q (b + 1 + qSz k) (i - 1 - qSz k) (by omega) (by omega) hr (x - 1 - qSz k) (by omega)]
          rw [show qNd (Lean.RArray.branch w k r) x = qNd r (x - 1 - qSz k) from by rw [qNd, if_neg (by omega), if_neg h2]]
          rw [show qNd (Lean.RArray.branch w k r) (x + 1) = qNd r (x - 1 - qSz k + 1) from by rw [qNd, if_neg (by omega), if_neg (by omega)]; congr 1; omega]
          by_cases h3 : x < i
          · rw [if_pos h3, if_pos (by omega), show b + 1 + qSz k + (x - 1 - qSz k) = b + x by omega]
          · rw [if_neg h3, if_neg (by omega)]
