/-! put(): the arguments of a node in another order -/
/-- the roots: place, head, arguments -/
def rtL : aFo → Nat → List (Nat × Nat × aFo)
  | .leaf _, _ => []
  | .branch w k r, b => (b, w, k) :: rtL r (b + 1 + qSz k)
/-- a forest of such roots -/
def ofL : List (Nat × Nat × aFo) → aFo
  | [] => .leaf ()
  | v :: l => .branch v.2.1 v.2.2 (ofL l)
/-- spans -/
def qSp : aFo → Nat → Nat
  | .leaf _, _ => 1
  | .branch _ k r, i => if i = 0 then 1 + qSz k else if i ≤ qSz k then qSp k (i - 1) else qSp r (i - 1 - qSz k)
/-- the arguments of node i -/
def qKid : Nat → aFo → aFo
  | _, .leaf _ => .leaf ()
  | i, .branch _ k r => if i = 0 then k else if i ≤ qSz k then qKid (i - 1) k else qKid (i - 1 - qSz k) r
/-- node i with other arguments -/
def qRep (k' : aFo) : Nat → aFo → aFo
  | _, .leaf _ => .leaf ()
  | i, .branch w k r => if i = 0 then .branch w k' r else if i ≤ qSz k then .branch w (qRep k' (i - 1) k) r else .branch w k (qRep k' (i - 1 - qSz k) r)
section ZPT
variable {T : Tm} {k' : aFo} {hs : Nat → Nat}
theorem ofL_rtL : ∀ (k : aFo) (b : Nat), ofL (rtL k b) = k := by
  intro k
  induction k with
  | leaf _ => intro b; rfl
  | branch w k r _ ih => intro b; rw [rtL, ofL, ih]
theorem ofL_app (l l' : List (Nat × Nat × aFo)) : ofL (l ++ l') = qAp (ofL l) (ofL l') := by
  induction l with
  | nil => rfl
  | cons v l ih => rw [List.cons_append, ofL, ofL, ih, qAp]
theorem rtL_len : ∀ (k : aFo) (b : Nat), (rtL k b).length = qLn k := by
  intro k
  induction k with
  | leaf _ => intro b; rfl
  | branch w k r _ ih => intro b; rw [rtL, List.length_cons, ih, qLn, Nat.add_comm]
theorem ofL_perm {l l' : List (Nat × Nat × aFo)} (h : List.Perm l l') : qLn (ofL l) = qLn (ofL l') ∧ qSz (ofL l) = qSz (ofL l') ∧ qSq (ofL l) = qSq (ofL l') ∧ qHt (ofL l) = qHt (ofL l') ∧ (qW hs (ofL l) → qW hs (ofL l')) ∧ (qS (ofL l) → qS (ofL l')) := by
  induction h with
  | nil => exact ⟨rfl, rfl, rfl, rfl, id, id⟩
  | cons v _ ih =>
    obtain ⟨h1, h2, h3, h4, h5, h6⟩ := ih
    refine ⟨?_, ?_, ?_, ?_, fun h => ⟨h.1, h.2.1, h5 h.2.2⟩, fun h => ⟨h.1, h.2.1, h6 h.2.2⟩⟩
    · rw [ofL, ofL, qLn, qLn, h1]
    · rw [ofL, ofL, qSz, qSz, h2]
    · rw [ofL, ofL, qSq, qSq, h3]
    · rw [ofL, ofL, qHt, qHt, h4]
  | swap v v' l =>
    refine ⟨rfl, ?_, ?_, ?_, fun h => ⟨h.2.2.1, h.2.2.2.1, h.1, h.2.1, h.2.2.2.2⟩, fun h => ⟨h.2.2.1, h.2.2.2.1, h.1, h.2.1, h.2.2.2.2⟩⟩
    · rw [ofL, ofL, ofL, ofL, qSz, qSz, qSz, qSz]; omega
    · rw [ofL, ofL, ofL, ofL, qSq, qSq, qSq, qSq]; omega
    · rw [ofL, ofL, ofL, ofL, qHt, qHt, qHt, qHt]; omega
  | trans _ _ ih1 ih2 =>
    obtain ⟨h1, h2, h3, h4, h5, h6⟩ := ih1
    obtain ⟨g1, g2, g3, g4, g5, g6⟩ := ih2
    exact ⟨h1.trans g1, h2.trans g2, h3.trans g3, h4.trans g4, fun h => g5 (h5 h), fun h => g6 (h6 h)⟩
theorem rtL_mem : ∀ (k : aFo) (b d : Nat), aTf T k b d → ∀ v, v ∈ rtL k b → aTf T (.branch v.2.1 v.2.2 (.leaf ())) v.1 d ∧ b ≤ v.1 ∧ v.1 + 1 + qSz v.2.2 ≤ b + qSz k := by
  intro k
  induction k with
  | leaf _ => intro b d _ v hv; exact absurd hv (List.not_mem_nil)
  | branch w k r _ ih =>
    intro b d h v hv
    rw [rtL] at hv
    rcases List.mem_cons.mp hv with e | e
    · subst e
      refine ⟨⟨h.1, h.2.1, True.intro⟩, Nat.le_refl _, ?_⟩
      show b + 1 + qSz k ≤ b + (1 + qSz k + qSz r)
      omega
    · obtain ⟨h1, h2, h3⟩ := ih _ _ h.2.2 v e
      refine ⟨h1, by omega, ?_⟩
      show _ ≤ b + (1 + qSz k + qSz r)
      omega
theorem at_sp : ∀ (G : aFo) (d i : Nat), (qAt G d i).2.2.2.1 = qSp G i := by
  intro G
  induction G with
  | leaf _ => intro d i; rfl
  | branch w k r ihk ihr =>
    intro d i
    rw [qAt, qSp]
    by_cases h0 : i = 0
    · rw [if_pos h0, if_pos h0]
    · by_cases h1 : i ≤ qSz k
      · rw [if_neg h0, if_neg h0, if_pos h1, if_pos h1]; exact ihk _ _
      · rw [if_neg h0, if_neg h0, if_neg h1, if_neg h1]; exact ihr _ _
theorem qSp_app (a b : aFo) : ∀ i, qSp (qAp a b) i = if i < qSz a then qSp a i else qSp b (i - qSz a) := by
  induction a with
  | leaf _ => intro i; rw [qAp, qSz, if_neg (Nat.not_lt_zero _), Nat.sub_zero]
  | branch w k r _ ih =>
    intro i
    rw [qAp, qSp, qSz]
    by_cases h0 : i = 0
    · rw [if_pos h0, if_pos (by omega), qSp, if_pos h0]
    · rw [if_neg h0]
      by_cases h1 : i ≤ qSz k
      · rw [if_pos h1, if_pos (by omega), qSp, if_neg h0, if_pos h1]
      · rw [if_neg h1, ih]
        by_cases h2 : i < 1 + qSz k + qSz r
        · rw [if_pos h2, if_pos (by omega), qSp, if_neg h0, if_neg h1]
        · rw [if_neg h2, if_neg (by omega)]
          congr 1
          omega
/-- the node's arguments in the row -/
theorem kid_tf : ∀ (G : aFo) (b d i : Nat), aTf T G b d → i < qSz G → aTf T (qKid i G) (b + i + 1) (tdp T (b + i) + 1) ∧ tr T (b + i) = qLn (qKid i G) ∧ tsp T (b + i) = 1 + qSz (qKid i G) ∧ i + 1 + qSz (qKid i G) ≤ qSz G := by
  intro G
  induction G with
  | leaf _ => intro b d i _ hi; exact absurd hi (Nat.not_lt_zero _)
  | branch w k r ihk ihr =>
    intro b d i h hi
    have hi : i < 1 + qSz k + qSz r := hi
    rw [qKid, qSz]
    by_cases h0 : i = 0
    · subst h0
      rw [if_pos rfl]
      show aTf T k (b + 1) (tdp T b + 1) ∧ tr T b = _ ∧ tsp T b = _ ∧ _
      rw [h.1.2.2.2.2]
      exact ⟨h.2.1, h.1.2.2.1, h.1.2.2.2.1, by omega⟩
    · by_cases h1 : i ≤ qSz k
      · rw [if_neg h0, if_pos h1]
        have := ihk (b + 1) (d + 1) (i - 1) h.2.1 (by omega)
        rw [show b + 1 + (i - 1) = b + i by omega] at this
        exact ⟨this.1, this.2.1, this.2.2.1, by omega⟩
      · rw [if_neg h0, if_neg h1]
        have := ihr (b + 1 + qSz k) d (i - 1 - qSz k) h.2.2 (by omega)
        rw [show b + 1 + qSz k + (i - 1 - qSz k) = b + i by omega] at this
        exact ⟨this.1, this.2.1, this.2.2.1, by omega⟩
theorem kid_W : ∀ (G : aFo) (i : Nat), qW hs G → qW hs (qKid i G) := by
  intro G
  induction G with
  | leaf _ => intro i _; exact True.intro
  | branch w k r ihk ihr =>
    intro i h
    rw [qKid]
    by_cases h0 : i = 0
    · rw [if_pos h0]; exact h.2.1
    · by_cases h1 : i ≤ qSz k
      · rw [if_neg h0, if_pos h1]; exact ihk _ h.2.1
      · rw [if_neg h0, if_neg h1]; exact ihr _ h.2.2
theorem kid_S : ∀ (G : aFo) (i : Nat), qS G → qS (qKid i G) := by
  intro G
  induction G with
  | leaf _ => intro i _; exact True.intro
  | branch w k r ihk ihr =>
    intro i h
    rw [qKid]
    by_cases h0 : i = 0
    · rw [if_pos h0]; exact h.2.1
    · by_cases h1 : i ≤ qSz k
      · rw [if_neg h0, if_pos h1]; exact ihk _ h.2.1
      · rw [if_neg h0, if_neg h1]; exact ihr _ h.2.2
/-- what stays with other arguments -/
theorem rep_all : ∀ (G : aFo) (i : Nat), i < qSz G → qSz k' = qSz (qKid i G) → qLn k' = qLn (qKid i G) → qSq k' = qSq (qKid i G) → qHt k' = qHt (qKid i G) → qSz (qRep k' i G) = qSz G ∧ qLn (qRep k' i G) = qLn G ∧ qSq (qRep k' i G) = qSq G ∧ qHt (qRep k' i G) = qHt G ∧ (qW hs k' → qW hs G → qW hs (qRep k' i G)) ∧ (qS k' → qS G → qS (qRep k' i G)) := by
  intro G
  induction G with
  | leaf _ => intro i hi; exact absurd hi (Nat.not_lt_zero _)
  | branch w k r ihk ihr =>
    intro i hi e1 e2 e3 e4
    have hi : i < 1 + qSz k + qSz r := hi
    rw [qKid] at e1 e2 e3 e4
    rw [qRep]
    by_cases h0 : i = 0
    · rw [if_pos h0] at e1 e2 e3 e4 ⊢
      refine ⟨by rw [qSz, qSz, e1], rfl, rfl, by rw [qHt, qHt, e4], fun a h => ⟨?_, a, h.2.2⟩, fun a h => ⟨?_, a, h.2.2⟩⟩
      · rw [e2]; exact h.1
      · rw [e2, e3]; exact h.1
    · rw [if_neg h0] at e1 e2 e3 e4 ⊢
      by_cases h1 : i ≤ qSz k
      · rw [if_pos h1] at e1 e2 e3 e4 ⊢
        obtain ⟨g1, g2, g3, g4, g5, g6⟩ := ihk (i - 1) (by omega) e1 e2 e3 e4
        refine ⟨by rw [qSz, qSz, g1], rfl, rfl, by rw [qHt, qHt, g4], fun a h => ⟨?_, g5 a h.2.1, h.2.2⟩, fun a h => ⟨?_, g6 a h.2.1, h.2.2⟩⟩
        · rw [g2]; exact h.1
        · rw [g2, g3]; exact h.1
      · rw [if_neg h1] at e1 e2 e3 e4 ⊢
        obtain ⟨g1, g2, g3, g4, g5, g6⟩ := ihr (i - 1 - qSz k) (by omega) e1 e2 e3 e4
        exact ⟨by rw [qSz, qSz, g1], by rw [qLn, qLn, g2], by rw [qSq, qSq, g3], by rw [qHt, qHt, g4], fun a h => ⟨h.1, h.2.1, g5 a h.2.2⟩, fun a h => ⟨h.1, h.2.1, g6 a h.2.2⟩⟩
theorem rep_sz : ∀ (G : aFo) (i : Nat), i < qSz G → qSz k' = qSz (qKid i G) → qLn k' = qLn (qKid i G) → qSz (qRep k' i G) = qSz G ∧ qLn (qRep k' i G) = qLn G := by
  intro G
  induction G with
  | leaf _ => intro i hi; exact absurd hi (Nat.not_lt_zero _)
  | branch w k r ihk ihr =>
    intro i hi e1 e2
    have hi : i < 1 + qSz k + qSz r := hi
    rw [qKid] at e1 e2
    rw [qRep]
    by_cases h0 : i = 0
    · rw [if_pos h0] at e1 e2 ⊢
      exact ⟨by rw [qSz, qSz, e1], rfl⟩
    · rw [if_neg h0] at e1 e2 ⊢
      by_cases h1 : i ≤ qSz k
      · rw [if_pos h1] at e1 e2 ⊢
        obtain ⟨g1, g2⟩ := ihk (i - 1) (by omega) e1 e2
        exact ⟨by rw [qSz, qSz, g1], rfl⟩
      · rw [if_neg h1] at e1 e2 ⊢
        obtain ⟨g1, g2⟩ := ihr (i - 1 - qSz k) (by omega) e1 e2
        exact ⟨by rw [qSz, qSz, g1], by rw [qLn, qLn, g2]⟩
/-- the row with other arguments -/
theorem rep_at : ∀ (G : aFo) (i : Nat), i < qSz G → qSz k' = qSz (qKid i G) → qLn k' = qLn (qKid i G) → ∀ x, qNd (qRep k' i G) x = (if i < x ∧ x ≤ i + qSz k' then qNd k' (x - i - 1) else qNd G x) ∧ qSp (qRep k' i G) x = (if i < x ∧ x ≤ i + qSz k' then qSp k' (x - i - 1) else qSp G x) := by
  intro G
  induction G with
  | leaf _ => intro i hi; exact absurd hi (Nat.not_lt_zero _)
  | branch w k r ihk ihr =>
    intro i hi e1 e2 x
    have hi : i < 1 + qSz k + qSz r := hi
    rw [qKid] at e1 e2
    rw [qRep]
    by_cases h0 : i = 0
    · rw [if_pos h0] at e1 e2 ⊢
      have n1 : qNd (.branch w k' r) x = if x = 0 then (w / 16, w % 16, qLn k) else if x ≤ qSz k then qNd k' (x - 1) else qNd r (x - 1 - qSz k) := by rw [qNd, e1, e2]
      have n2 : qNd (.branch w k r) x = if x = 0 then (w / 16, w % 16, qLn k) else if x ≤ qSz k then qNd k (x - 1) else qNd r (x - 1 - qSz k) := by rw [qNd]
      have n3 : qSp (.branch w k' r) x = if x = 0 then 1 + qSz k else if x ≤ qSz k then qSp k' (x - 1) else qSp r (x - 1 - qSz k) := by rw [qSp, e1]
      have n4 : qSp (.branch w k r) x = if x = 0 then 1 + qSz k else if x ≤ qSz k then qSp k (x - 1) else qSp r (x - 1 - qSz k) := by rw [qSp]
      rw [n1, n2, n3, n4, e1]
      by_cases x0 : x = 0
      · have hc : ¬ (i < x ∧ x ≤ i + qSz k) := by omega
        rw [if_pos x0, if_pos x0, if_pos x0, if_pos x0, if_neg hc, if_neg hc]; exact ⟨rfl, rfl⟩
      · rw [if_neg x0, if_neg x0, if_neg x0, if_neg x0]
        by_cases x1 : x ≤ qSz k
        · have hc : i < x ∧ x ≤ i + qSz k := by omega
          rw [if_pos x1, if_pos x1, if_pos x1, if_pos x1, if_pos hc, if_pos hc, show x - i - 1 = x - 1 by omega]; exact ⟨rfl, rfl⟩
        · have hc : ¬ (i < x ∧ x ≤ i + qSz k) := by omega
          rw [if_neg x1, if_neg x1, if_neg x1, if_neg x1, if_neg hc, if_neg hc]; exact ⟨rfl, rfl⟩
    · rw [if_neg h0] at e1 e2 ⊢
      by_cases h1 : i ≤ qSz k
      · rw [if_pos h1] at e1 e2 ⊢
        obtain ⟨-, -, -, kb⟩ := kid_tf (T := tmF k) k 0 0 (i - 1) (aTf_tm k) (by omega)
        obtain ⟨g1, g2⟩ := ihk (i - 1) (by omega) e1 e2 (x - 1)
        obtain ⟨gz, gl⟩ := rep_sz k (i - 1) (by omega) e1 e2
        rw [qNd, qSp, qNd, qSp, gz, gl, g1, g2]
        by_cases x0 : x = 0
        · have hc : ¬ (i < x ∧ x ≤ i + qSz k') := by omega
          rw [if_pos x0, if_pos x0, if_neg hc, if_neg hc, if_pos x0, if_pos x0]; exact ⟨rfl, rfl⟩
        · rw [if_neg x0, if_neg x0, if_neg x0, if_neg x0]
          by_cases x1 : x ≤ qSz k
          · rw [if_pos x1, if_pos x1, if_pos x1, if_pos x1]
            by_cases hc : i < x ∧ x ≤ i + qSz k'
            · have hc' : i - 1 < x - 1 ∧ x - 1 ≤ i - 1 + qSz k' := by omega
              rw [if_pos hc, if_pos hc, if_pos hc', if_pos hc', show x - 1 - (i - 1) - 1 = x - i - 1 by omega]; exact ⟨rfl, rfl⟩
            · have hc' : ¬ (i - 1 < x - 1 ∧ x - 1 ≤ i - 1 + qSz k') := by omega
              rw [if_neg hc, if_neg hc, if_neg hc', if_neg hc']; exact ⟨rfl, rfl⟩
          · have hc : ¬ (i < x ∧ x ≤ i + qSz k') := by omega
            rw [if_neg x1, if_neg x1, if_neg hc, if_neg hc, if_neg x1, if_neg x1]; exact ⟨rfl, rfl⟩
      · rw [if_neg h1] at e1 e2 ⊢
        obtain ⟨g1, g2⟩ := ihr (i - 1 - qSz k) (by omega) e1 e2 (x - 1 - qSz k)
        rw [qNd, qSp, qNd, qSp, g1, g2]
        by_cases x0 : x = 0
        · have hc : ¬ (i < x ∧ x ≤ i + qSz k') := by omega
          rw [if_pos x0, if_pos x0, if_neg hc, if_neg hc, if_pos x0, if_pos x0]; exact ⟨rfl, rfl⟩
        · rw [if_neg x0, if_neg x0, if_neg x0, if_neg x0]
          by_cases x1 : x ≤ qSz k
          · have hc : ¬ (i < x ∧ x ≤ i + qSz k') := by omega
            rw [if_pos x1, if_pos x1, if_neg hc, if_neg hc, if_pos x1, if_pos x1]; exact ⟨rfl, rfl⟩
          · rw [if_neg x1, if_neg x1, if_neg x1, if_neg x1]
            by_cases hc : i < x ∧ x ≤ i + qSz k'
            · have hc' : i - 1 - qSz k < x - 1 - qSz k ∧ x - 1 - qSz k ≤ i - 1 - qSz k + qSz k' := by omega
              rw [if_pos hc, if_pos hc, if_pos hc', if_pos hc', show x - 1 - qSz k - (i - 1 - qSz k) - 1 = x - i - 1 by omega]; exact ⟨rfl, rfl⟩
            · have hc' : ¬ (i - 1 - qSz k < x - 1 - qSz k ∧ x - 1 - qSz k ≤ i - 1 - qSz k + qSz k') := by omega
              rw [if_neg hc, if_neg hc, if_neg hc', if_neg hc']; exact ⟨rfl, rfl⟩
end ZPT
