/-! put(): FORESTS: first node (sort, number), its arguments, the nodes beside it -/
abbrev aFo : Type := Lean.RArray Unit
/-- nodes -/
def qSz : aFo → Nat
  | .leaf _ => 0
  | .branch _ k r => 1 + qSz k + qSz r
/-- roots -/
def qLn : aFo → Nat
  | .leaf _ => 0
  | .branch _ _ r => 1 + qLn r
/-- node i in preorder: sort, number, arguments, span, depth -/
def qAt : aFo → Nat → Nat → Nat × Nat × Nat × Nat × Nat
  | .leaf _, _, _ => (0, 0, 0, 1, 0)
  | .branch w k r, d, i => if i = 0 then ((w / 16), (w % 16), qLn k, 1 + qSz k, d) else if i ≤ qSz k then qAt k (d + 1) (i - 1) else qAt r d (i - 1 - qSz k)
/-- the parent of node i (of a root: q), b the place of the first node -/
def qPar : aFo → Nat → Nat → Nat → Nat
  | .leaf _, q, _, _ => q
  | .branch _ k r, q, b, i => if i = 0 then q else if i ≤ qSz k then qPar k b (b + 1) (i - 1) else qPar r q (b + 1 + qSz k) (i - 1 - qSz k)
/-- height -/
def qHt : aFo → Nat
  | .leaf _ => 0
  | .branch _ k r => max (1 + qHt k) (qHt r)
/-- the term of a forest of one root -/
def tmF (G : aFo) : Tm := (qSz G, fun i => (qAt G 0 i).1, fun i => (qAt G 0 i).2.1, fun i => (qAt G 0 i).2.2.1, fun i => (qAt G 0 i).2.2.2.1, fun i => (qAt G 0 i).2.2.2.2)
/-- T holds the forest from node b on, at depth d -/
def aTf (T : Tm) : aFo → Nat → Nat → Prop
  | .leaf _, _, _ => True
  | .branch w k r, b, d => (ts T b = (w / 16) ∧ tg T b = (w % 16) ∧ tr T b = qLn k ∧ tsp T b = 1 + qSz k ∧ tdp T b = d) ∧ aTf T k (b + 1) (d + 1) ∧ aTf T r (b + 1 + qSz k) d
section ZPK
variable {T : Tm} {G : aFo}
theorem aTf_of : ∀ (G : aFo) (b d : Nat), (∀ i, i < qSz G → ts T (b + i) = (qAt G d i).1 ∧ tg T (b + i) = (qAt G d i).2.1 ∧ tr T (b + i) = (qAt G d i).2.2.1 ∧ tsp T (b + i) = (qAt G d i).2.2.2.1 ∧ tdp T (b + i) = (qAt G d i).2.2.2.2) → aTf T G b d := by
  intro G
  induction G with
  | leaf _ => intro b d _; exact True.intro
  | branch w k r ihk ihr =>
    intro b d h
    refine ⟨?_, ?_, ?_⟩
    · have h0 := h 0 (by show 0 < 1 + qSz k + qSz r; omega)
      rw [show qAt (Lean.RArray.branch w k r) d 0 = ((w / 16), (w % 16), qLn k, 1 + qSz k, d) from by unfold qAt; rw [if_pos rfl]] at h0
      exact h0
    · refine ihk (b + 1) (d + 1) fun i hi => ?_
      have h0 := h (i + 1) (by show i + 1 < 1 + qSz k + qSz r; omega)
      rw [show qAt (Lean.RArray.branch w k r) d (i + 1) = qAt k (d + 1) i from by rw [qAt, if_neg (by omega), if_pos (by omega)]; rfl] at h0
      rw [show b + 1 + i = b + (i + 1) by omega]
      exact h0
    · refine ihr (b + 1 + qSz k) d fun i hi => ?_
      have h0 := h (i + 1 + qSz k) (by show i + 1 + qSz k < 1 + qSz k + qSz r; omega)
      rw [show qAt (Lean.RArray.branch w k r) d (i + 1 + qSz k) = qAt r d i from by rw [qAt, if_neg (by omega), if_neg (by omega), show i + 1 + qSz k - 1 - qSz k = i by omega]] at h0
      rw [show b + 1 + qSz k + i = b + (i + 1 + qSz k) by omega]
      exact h0
theorem aTf_tm (G : aFo) : aTf (tmF G) G 0 0 := aTf_of G 0 0 fun i _ => by rw [Nat.zero_add]; exact ⟨rfl, rfl, rfl, rfl, rfl⟩
/-- and back -/
theorem aTf_at : ∀ (G : aFo) (b d : Nat), aTf T G b d → ∀ i, i < qSz G → ts T (b + i) = (qAt G d i).1 ∧ tg T (b + i) = (qAt G d i).2.1 ∧ tr T (b + i) = (qAt G d i).2.2.1 ∧ tsp T (b + i) = (qAt G d i).2.2.2.1 ∧ tdp T (b + i) = (qAt G d i).2.2.2.2 := by
  intro G
  induction G with
  | leaf _ => intro b d _ i hi; exact absurd hi (Nat.not_lt_zero _)
  | branch w k r ihk ihr =>
    intro b d h i hi
    have hi : i < 1 + qSz k + qSz r := hi
    obtain ⟨h1, h2, h3⟩ := h
    by_cases h0 : i = 0
    · subst h0
      rw [qAt, if_pos rfl]
      exact h1
    · by_cases h4 : i ≤ qSz k
      · rw [qAt, if_neg h0, if_pos h4]
        have := ihk _ _ h2 (i - 1) (by omega)
        rw [show b + 1 + (i - 1) = b + i by omega] at this
        exact this
      · rw [qAt, if_neg h0, if_neg h4]
        have := ihr _ _ h3 (i - 1 - qSz k) (by omega)
        rw [show b + 1 + qSz k + (i - 1 - qSz k) = b + i by omega] at this
        exact this
/-- walking over the roots -/
theorem aTf_wk : ∀ (G : aFo) (b d : Nat), aTf T G b d → wk (tsp T) (qLn G) b = b + qSz G := by
  intro G
  induction G with
  | leaf _ => intro b d _; rfl
  | branch w k r ihk ihr =>
    intro b d h
    show wk (tsp T) (1 + qLn r) b = b + (1 + qSz k + qSz r)
    rw [Nat.add_comm 1, show wk (tsp T) (qLn r + 1) b = wk (tsp T) (qLn r) (b + tsp T b) from rfl, h.1.2.2.2.1, show b + (1 + qSz k) = b + 1 + qSz k by omega, ihr _ _ h.2.2]
    omega
theorem aTf_root : ∀ (G : aFo) (b d : Nat), aTf T G b d → ∀ k, k < qLn G → tdp T (wk (tsp T) k b) = d ∧ b ≤ wk (tsp T) k b ∧ wk (tsp T) k b < b + qSz G := by
  intro G
  induction G with
  | leaf _ => intro b d _ k hk; exact absurd hk (Nat.not_lt_zero _)
  | branch w k r ihk ihr =>
    intro b d h y hy
    have hy : y < 1 + qLn r := hy
    cases y with
    | zero => exact ⟨h.1.2.2.2.2, Nat.le_refl _, by show b < b + (1 + qSz k + qSz r); omega⟩
    | succ y =>
      obtain ⟨h1, h2, h3⟩ := ihr _ _ h.2.2 y (by omega)
      rw [show wk (tsp T) (y + 1) b = wk (tsp T) y (b + tsp T b) from rfl, h.1.2.2.2.1, show b + (1 + qSz k) = b + 1 + qSz k by omega]
      exact ⟨h1, by omega, by show _ < b + (1 + qSz k + qSz r); omega⟩
/-- each node of a forest -/
theorem aTf_node : ∀ (G : aFo) (b d : Nat), aTf T G b d → ∀ i, b ≤ i → i < b + qSz G → ∃ K : aFo, aTf T K (i + 1) (tdp T i + 1) ∧ tr T i = qLn K ∧ tsp T i = 1 + qSz K ∧ i + 1 + qSz K ≤ b + qSz G ∧ tdp T i + 1 + qHt K ≤ d + qHt G := by
  intro G
  induction G with
  | leaf _ => intro b d _ i h1 h2; exact absurd h2 (by show ¬ i < b + 0; omega)
  | branch w k r ihk ihr =>
    intro b d h i h1 h2
    have h2 : i < b + (1 + qSz k + qSz r) := h2
    show ∃ K : aFo, _ ∧ _ ∧ _ ∧ _ ≤ b + (1 + qSz k + qSz r) ∧ _ ≤ d + max (1 + qHt k) (qHt r)
    by_cases e : i = b
    · subst e
      rw [h.1.2.2.2.2]
      exact ⟨k, h.2.1, h.1.2.2.1, h.1.2.2.2.1, by omega, by omega⟩
    · by_cases e2 : i < b + 1 + qSz k
      · obtain ⟨K, c1, c2, c3, c4, c5⟩ := ihk _ _ h.2.1 i (by omega) (by omega)
        exact ⟨K, c1, c2, c3, by omega, by omega⟩
      · obtain ⟨K, c1, c2, c3, c4, c5⟩ := ihr _ _ h.2.2 i (by omega) (by omega)
        exact ⟨K, c1, c2, c3, by omega, by omega⟩
theorem q_at_span : ∀ (G : aFo) (d i : Nat), 1 ≤ (qAt G d i).2.2.2.1 := by
  intro G
  induction G with
  | leaf _ => intro d i; exact Nat.le_refl _
  | branch w k r ihk ihr =>
    intro d i
    rw [qAt]
    by_cases h0 : i = 0
    · rw [if_pos h0]; show 1 ≤ 1 + qSz k; omega
    · by_cases h4 : i ≤ qSz k
      · rw [if_neg h0, if_pos h4]; exact ihk _ _
      · rw [if_neg h0, if_neg h4]; exact ihr _ _
/-- ONE TERM from a forest of one root -/
theorem q_tSh_f (h1 : qLn G = 1) (h32 : qSz G ≤ 32) : tSh (tmF G) := by
  have hT := aTf_tm G
  cases G with
  | leaf _ => cases h1
  | branch w k r =>
    have hr : qSz r = 0 := by
      cases r with
      | leaf _ => rfl
      | branch w' k' r' => exact absurd h1 (by show ¬ 1 + (1 + qLn r') = 1; omega)
    refine ⟨by show 1 ≤ 1 + qSz k + qSz r; omega, h32, fun i => q_at_span _ _ _, fun i hi => ?_, ?_, ?_, fun i hi y hy => ?_⟩
    · obtain ⟨K, c1, c2, c3, c4, c5⟩ := aTf_node _ _ _ hT i (Nat.zero_le _) (by rw [Nat.zero_add]; exact hi)
      rw [c3]
      refine ⟨by show _ ≤ qSz (Lean.RArray.branch w k r); omega, ?_⟩
      rw [c2, aTf_wk K _ _ c1]
      omega
    · show (qAt (Lean.RArray.branch w k r) 0 0).2.2.2.1 = 1 + qSz k + qSz r
      rw [qAt, if_pos rfl, hr]
      rfl
    · show (qAt (Lean.RArray.branch w k r) 0 0).2.2.2.2 = 0
      rw [qAt, if_pos rfl]
    · obtain ⟨K, c1, c2, c3, c4, c5⟩ := aTf_node _ _ _ hT i (Nat.zero_le _) (by rw [Nat.zero_add]; exact hi)
      exact (aTf_root K _ _ c1 y (by rw [← c2]; exact hy)).1
/-- every term is a forest of one root -/
theorem aFo_of (hT : tSh T) (hg : ∀ i, i < tn T → tg T i < 16) : ∀ (m c b d : Nat), wk (tsp T) c b ≤ b + m → wk (tsp T) c b ≤ tn T → (∀ k, k < c → tdp T (wk (tsp T) k b) = d) → ∃ G : aFo, qLn G = c ∧ b + qSz G = wk (tsp T) c b ∧ aTf T G b d := by
  intro m
  induction m with
  | zero =>
    intro c b d h1 h2 h3
    cases c with
    | zero => exact ⟨(Lean.RArray.leaf ()), rfl, rfl, True.intro⟩
    | succ c =>
      have e1 := wk_le (tsp T) c (b + tsp T b)
      have e2 := hT.2.2.1 b
      exact absurd h1 (by show ¬ wk (tsp T) c (b + tsp T b) ≤ b + 0; omega)
  | succ m ih =>
    intro c b d h1 h2 h3
    cases c with
    | zero => exact ⟨(Lean.RArray.leaf ()), rfl, rfl, True.intro⟩
    | succ c =>
      have e1 := wk_le (tsp T) c (b + tsp T b)
      have e2 := hT.2.2.1 b
      have h1 : wk (tsp T) c (b + tsp T b) ≤ b + (m + 1) := h1
      have h2 : wk (tsp T) c (b + tsp T b) ≤ tn T := h2
      have hb : b < tn T := by omega
      obtain ⟨f1, f2⟩ := hT.2.2.2.1 b hb
      have hd : tdp T b = d := h3 0 (by omega)
      obtain ⟨k, k1, k2, k3⟩ := ih (tr T b) (b + 1) (d + 1) (by rw [f2]; omega) (by rw [f2]; exact f1) (fun y hy => by rw [← hd]; exact hT.2.2.2.2.2.2 b hb y hy)
      rw [f2] at k2
      obtain ⟨r, r1, r2, r3⟩ := ih c (b + tsp T b) d (by omega) h2 (fun y hy => h3 (y + 1) (by omega))
      have hgb := hg b hb
      refine ⟨.branch (ts T b * 16 + tg T b) k r, by show 1 + qLn r = c + 1; omega, ?_, ⟨by omega, by omega, k1.symm, by omega, hd⟩, k3, ?_⟩
      · show b + (1 + qSz k + qSz r) = wk (tsp T) c (b + tsp T b)
        omega
      · rw [show b + 1 + qSz k = b + tsp T b by omega]
        exact r3
theorem aFo_all (hT : tSh T) (hg : ∀ i, i < tn T → tg T i < 16) : ∃ G : aFo, qLn G = 1 ∧ qSz G = tn T ∧ aTf T G 0 0 := by
  obtain ⟨G, g1, g2, g3⟩ := aFo_of hT hg (tn T) 1 0 0 (by show 0 + tsp T 0 ≤ _; rw [hT.2.2.2.2.1]; exact Nat.le_refl _) (by show 0 + tsp T 0 ≤ _; rw [hT.2.2.2.2.1, Nat.zero_add]; exact Nat.le_refl _) (fun k hk => by
    obtain rfl : k = 0 := by omega
    exact hT.2.2.2.2.2.1)
  exact ⟨G, g1, by rw [Nat.zero_add] at g2; rw [g2]; show 0 + tsp T 0 = _; rw [hT.2.2.2.2.1, Nat.zero_add], g3⟩
end ZPK
