/-! GOOD FORESTS: what registers hold here -/
def pN3 : aFo → Prop
  | .leaf _ => True
  | .branch w k r => w < 48 ∧ pN3 k ∧ pN3 r
def gGd (G : aFo) : Prop := qLn G = 1 ∧ qSz G ≤ 14 ∧ (∃ hs, qW hs G) ∧ qS G ∧ qHt G ≤ 8 ∧ pN3 G
theorem pN3_sq : ∀ G : aFo, pN3 G → qSq G = 0 := by
  intro G
  induction G with
  | leaf _ => intro _; rfl
  | branch w k r _ ih =>
    intro h
    rw [qSq, if_neg (by have := h.1; omega), ih h.2.2]
theorem pN3_nd : ∀ G : aFo, pN3 G → ∀ i, i < qSz G → (qNd G i).1 ≠ 3 := by
  intro G
  induction G with
  | leaf _ => intro _ i hi; exact absurd hi (Nat.not_lt_zero _)
  | branch w k r ihk ihr =>
    intro h i hi
    rw [qSz] at hi
    obtain ⟨h1, h2, h3⟩ := h
    rw [qNd]
    by_cases c : i = 0
    · rw [if_pos c]; show w / 16 ≠ 3; omega
    · by_cases c2 : i ≤ qSz k
      · rw [if_neg c, if_pos c2]; exact ihk h2 _ (by omega)
      · rw [if_neg c, if_neg c2]; exact ihr h3 _ (by omega)
theorem gGd_wf {G : aFo} (h : gGd G) : tWF (tmF G) ∧ tN3 (tmF G) := by
  obtain ⟨h1, h2, ⟨hs, h3⟩, h4, h5, h6⟩ := h
  refine ⟨q_tWF_f h1 (by omega) h3 h4 h5 (pN3_sq G h6), fun i hi => ?_⟩
  rw [q_ts_f]
  exact pN3_nd G h6 i hi
theorem jn_S {hd : Bool} : ∀ (A B : aFo) (i j : Nat) (tb : pTb) (P : aFo) (tb' : pTb), jn hd A B i j tb = some (P, tb') → qS A → tb.length ≤ 10 → qS P ∧ pN3 P ∧ qHt P ≤ qHt A := by
  intro A
  induction A with
  | leaf _ => intro B i j tb P tb' h _ _; rw [jn] at h; cases h; exact ⟨True.intro, True.intro, Nat.le_refl _⟩
  | branch w k r ihk ihr =>
    intro B i j tb P tb' h hS hl
    obtain ⟨⟨s1, s2⟩, sk, sr⟩ := hS
    cases B with
    | leaf _ => rw [jn] at h; cases h
    | branch w' k' r' =>
      rcases jn_inv h with ⟨c, x, t1, y, h1, h2, rfl⟩ | ⟨c, g, t1, y, h1, h2, rfl⟩ | ⟨c, g, t1, x, t2, y, h1, h2, h3, rfl⟩
      · obtain ⟨c1, -, -⟩ := pRule_0 c
        have l1 := (jn_grow _ _ _ _ _ _ _ h1).2 hl
        obtain ⟨a1, a2, a3⟩ := ihk _ _ _ _ _ _ h1 sk hl
        obtain ⟨b1, b2, b3⟩ := ihr _ _ _ _ _ _ h2 sr l1
        refine ⟨⟨⟨by rw [(jn_len _ _ _ _ _ _ _ h1).1]; exact s1, by rw [pN3_sq x a2]; omega⟩, a1, b1⟩, ⟨by omega, a2, b2⟩, ?_⟩
        rw [qHt, qHt]; omega
      · obtain ⟨-, l0, l1, -⟩ := pHole_fin h1
        have l1 := l1 hl
        obtain ⟨b1, b2, b3⟩ := ihr _ _ _ _ _ _ h2 sr l1
        refine ⟨⟨⟨Nat.zero_le _, Nat.zero_le _⟩, True.intro, b1⟩, ⟨by omega, True.intro, b2⟩, ?_⟩
        rw [qHt, qHt, qHt]; omega
      · obtain ⟨-, l0, l1, -⟩ := pHole_fin h1
        have l1 := l1 hl
        have l2 := (jn_grow _ _ _ _ _ _ _ h2).2 l1
        obtain ⟨a1, a2, a3⟩ := ihk _ _ _ _ _ _ h2 sk l1
        obtain ⟨b1, b2, b3⟩ := ihr _ _ _ _ _ _ h3 sr l2
        refine ⟨⟨⟨by rw [(jn_len _ _ _ _ _ _ _ h2).1]; exact s1, by rw [pN3_sq x a2]; omega⟩, a1, b1⟩, ⟨by omega, a2, b2⟩, ?_⟩
        rw [qHt, qHt]; omega
theorem gGd_jn {hd : Bool} {A B P : aFo} {tb : pTb} (hA : gGd A) (h : jn hd A B 0 0 [] = some (P, tb)) : gGd P ∧ qW (pHs tb) P := by
  obtain ⟨h1, h2, ⟨hs, h3⟩, h4, h5, h6⟩ := hA
  obtain ⟨a1, a2⟩ := jn_len _ _ _ _ _ _ _ h
  obtain ⟨b1, b2, b3⟩ := jn_S _ _ _ _ _ _ _ h h4 (Nat.zero_le _)
  have hw := jn_W _ _ _ _ _ _ _ h h3 (Nat.zero_le _) []
  rw [List.append_nil] at hw
  exact ⟨⟨by omega, by omega, ⟨_, hw⟩, b1, by omega, b2⟩, hw⟩
/-- a pattern matches itself -/
theorem mt_self {P : aFo} (h : gGd P) : ∃ f, mt P P 0 (fun _ => none) = some f := by
  obtain ⟨h1, h2, ⟨hs, h3⟩, h4, h5, h6⟩ := h
  obtain ⟨f, a, -⟩ := mt_of P P 0 (fun _ => none) (cov_self P h3 (pN3_nd P h6)) (fun x v hv => by cases hv)
  exact ⟨f, a⟩
