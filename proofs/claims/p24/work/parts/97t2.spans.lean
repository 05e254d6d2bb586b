/-! put(): which spans still stand while the Shaper sorts -/
/-- X holds the spans of the roots, and inside of a node only ahead of place m -/
def qSd (X : Nat → Int32) (m : Nat) : aFo → Nat → Prop
  | .leaf _, _ => True
  | .branch _ k r, b => X b = nI (1 + qSz k) ∧ (b < m → qSd X m k (b + 1)) ∧ qSd X m r (b + 1 + qSz k)
section ZPT2
variable {X : Nat → Int32} {T : Tm} {k' : aFo}
theorem qSd_of {m : Nat} : ∀ (G : aFo) (b d : Nat), aTf T G b d → (∀ j, b ≤ j → j < b + qSz G → X j = nI (tsp T j)) → qSd X m G b := by
  intro G
  induction G with
  | leaf _ => intro b d _ _; exact True.intro
  | branch w k r ihk ihr =>
    intro b d h hX
    have hX : ∀ j, b ≤ j → j < b + (1 + qSz k + qSz r) → X j = nI (tsp T j) := hX
    exact ⟨by rw [hX b (Nat.le_refl _) (by omega), h.1.2.2.2.1], fun _ => ihk _ _ h.2.1 (fun j h1 h2 => hX j (by omega) (by omega)), ihr _ _ h.2.2 (fun j h1 h2 => hX j (by omega) (by omega))⟩
theorem qSd_mono {m m' : Nat} (hm : m' ≤ m) : ∀ (G : aFo) (b : Nat), qSd X m G b → qSd X m' G b := by
  intro G
  induction G with
  | leaf _ => intro b _; exact True.intro
  | branch w k r ihk ihr =>
    intro b h
    exact ⟨h.1, fun hb => ihk _ (h.2.1 (by omega)), ihr _ h.2.2⟩
theorem qSd_kid {m : Nat} : ∀ (G : aFo) (b i : Nat), qSd X m G b → i < qSz G → b + i < m → qSd X m (qKid i G) (b + i + 1) := by
  intro G
  induction G with
  | leaf _ => intro b i _ hi; exact absurd hi (Nat.not_lt_zero _)
  | branch w k r ihk ihr =>
    intro b i h hi hm
    have hi : i < 1 + qSz k + qSz r := hi
    rw [qKid]
    by_cases h0 : i = 0
    · subst h0
      rw [if_pos rfl]
      exact h.2.1 (by omega)
    · by_cases h1 : i ≤ qSz k
      · rw [if_neg h0, if_pos h1]
        have := ihk (b + 1) (i - 1) (h.2.1 (by omega)) (by omega) (by omega)
        rw [show b + 1 + (i - 1) = b + i by omega] at this
        exact this
      · rw [if_neg h0, if_neg h1]
        have := ihr (b + 1 + qSz k) (i - 1 - qSz k) h.2.2 (by omega) (by omega)
        rw [show b + 1 + qSz k + (i - 1 - qSz k) = b + i by omega] at this
        exact this
theorem qSd_rep : ∀ (G : aFo) (b i : Nat), qSd X (b + i + 1) G b → i < qSz G → qSz k' = qSz (qKid i G) → qLn k' = qLn (qKid i G) → qSd X (b + i) (qRep k' i G) b := by
  intro G
  induction G with
  | leaf _ => intro b i _ hi; exact absurd hi (Nat.not_lt_zero _)
  | branch w k r ihk ihr =>
    intro b i h hi e1 e2
    have hi : i < 1 + qSz k + qSz r := hi
    rw [qKid] at e1 e2
    rw [qRep]
    by_cases h0 : i = 0
    · subst h0
      rw [if_pos rfl] at e1 e2 ⊢
      exact ⟨by rw [e1]; exact h.1, fun hb => absurd hb (by omega), by rw [e1]; exact qSd_mono (by omega) _ _ h.2.2⟩
    · rw [if_neg h0] at e1 e2 ⊢
      by_cases h1 : i ≤ qSz k
      · rw [if_pos h1] at e1 e2 ⊢
        obtain ⟨gz, -⟩ := rep_sz k (i - 1) (by omega) e1 e2
        refine ⟨by rw [gz]; exact h.1, fun _ => ?_, by rw [gz]; exact qSd_mono (by omega) _ _ h.2.2⟩
        have := ihk (b + 1) (i - 1) (by rw [show b + 1 + (i - 1) + 1 = b + i + 1 by omega]; exact h.2.1 (by omega)) (by omega) e1 e2
        rw [show b + 1 + (i - 1) = b + i by omega] at this
        exact this
      · rw [if_neg h1] at e1 e2 ⊢
        refine ⟨h.1, fun hb => qSd_mono (by omega) _ _ (h.2.1 (by omega)), ?_⟩
        have := ihr (b + 1 + qSz k) (i - 1 - qSz k) (by rw [show b + 1 + qSz k + (i - 1 - qSz k) + 1 = b + i + 1 by omega]; exact h.2.2) (by omega) e1 e2
        rw [show b + 1 + qSz k + (i - 1 - qSz k) = b + i by omega] at this
        exact this
theorem qSd_root {m : Nat} : ∀ (k : aFo) (b d : Nat), qSd X m k b → aTf T k b d → ∀ v, v ∈ rtL k b → X v.1 = nI (tsp T v.1) := by
  intro k
  induction k with
  | leaf _ => intro b d _ _ v hv; exact absurd hv (List.not_mem_nil)
  | branch w k r _ ih =>
    intro b d h hf v hv
    rw [rtL] at hv
    rcases List.mem_cons.mp hv with e | e
    · subst e
      show X b = nI (tsp T b)
      rw [h.1, hf.1.2.2.2.1]
    · exact ih _ _ h.2.2 hf.2.2 v e
theorem rtL_wk : ∀ (k : aFo) (b d x : Nat), aTf T k b d → x < qLn k → ∃ v, v ∈ rtL k b ∧ v.1 = wk (tsp T) x b := by
  intro k
  induction k with
  | leaf _ => intro b d x _ hx; exact absurd hx (Nat.not_lt_zero _)
  | branch w k r _ ih =>
    intro b d x hf hx
    have hx : x < 1 + qLn r := hx
    cases x with
    | zero => exact ⟨(b, w, k), by rw [rtL]; exact List.mem_cons.mpr (Or.inl rfl), rfl⟩
    | succ x =>
      obtain ⟨v, h1, h2⟩ := ih (b + 1 + qSz k) d x hf.2.2 (by omega)
      refine ⟨v, by rw [rtL]; exact List.mem_cons.mpr (Or.inr h1), ?_⟩
      rw [h2]
      show _ = wk (tsp T) x (b + tsp T b)
      rw [hf.1.2.2.2.1, show b + (1 + qSz k) = b + 1 + qSz k by omega]
end ZPT2
