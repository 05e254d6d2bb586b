/-! put(): when a forest is a WELL FORMED term; flat forests are -/
/-- nodes are right; a hole's number has one sort -/
def qW (hs : Nat → Nat) : aFo → Prop
  | .leaf _ => True
  | .branch w k r => ((w / 16) ≤ 3 ∧ ((w / 16) = 0 → (w % 16) ≤ 12) ∧ ((w / 16) ≠ 0 → (w % 16) ≤ 9) ∧ ((w / 16) = 1 ∨ (w / 16) = 3 → qLn k = 0) ∧ ((w / 16) = 2 → 1 ≤ qLn k) ∧ ((w / 16) ≠ 0 → hs (w % 16) = (w / 16))) ∧ qW hs k ∧ qW hs r
/-- no node has too many arguments or two sequence holes -/
def qS : aFo → Prop
  | .leaf _ => True
  | .branch _ k r => (qLn k ≤ 8 ∧ qSq k ≤ 1) ∧ qS k ∧ qS r
/-- the class's test -/
def qOk (fb : Nat → Bool) : aFo → Prop
  | .leaf _ => True
  | .branch w k r => (qLn (qFl fb (w / 16) (w % 16) k) ≤ 8 ∧ qSq (qFl fb (w / 16) (w % 16) k) ≤ 1) ∧ qOk fb k ∧ qOk fb r
variable {fb : Nat → Bool} {hs : Nat → Nat} {T : Tm}
theorem q_fW_app {a b : aFo} (ha : qW hs a) (hb : qW hs b) : qW hs (qAp a b) := by
  induction a with
  | leaf _ => exact hb
  | branch w k r _ ih => exact ⟨ha.1, ha.2.1, ih ha.2.2⟩
theorem q_fS_app {a b : aFo} : qS (qAp a b) ↔ qS a ∧ qS b := by
  induction a with
  | leaf _ => exact ⟨fun h => ⟨True.intro, h⟩, fun h => h.2⟩
  | branch w k r _ ih =>
    rw [qAp, qS, qS, ih]
    exact ⟨fun h => ⟨⟨h.1, h.2.1, h.2.2.1⟩, h.2.2.2⟩, fun h => ⟨h.1.1, h.1.2.1, h.1.2.2, h.2⟩⟩
theorem q_fl_len {s g : Nat} (h : s ≠ 0) (G : aFo) : qLn (qFl fb s g G) = qLn G := by
  induction G with
  | leaf _ => rfl
  | branch w k r _ ih =>
    rw [qFl, if_neg (fun hd => h hd.2.1), qLn, qLn, ih]
theorem q_fl_nil {s g : Nat} {G : aFo} (h : qLn G = 0) : qLn (qFl fb s g G) = 0 := by rw [q_len_0 h]; rfl
theorem q_fW_fl : ∀ (G : aFo) (s g : Nat), qW hs G → qW hs (qFl fb s g G) := by
  intro G
  induction G with
  | leaf _ => intro s g _; exact True.intro
  | branch w k r ihk ihr =>
    intro s g h
    obtain ⟨⟨h1, h2, h3, h4, h5, h6⟩, hk, hr⟩ := h
    rw [qFl]
    by_cases hd : qDs fb s g (w / 16) (w % 16) (qLn k)
    · rw [if_pos hd]
      exact q_fW_app (ihk _ _ hk) (ihr _ _ hr)
    · rw [if_neg hd]
      exact ⟨⟨h1, h2, h3, fun h => q_fl_nil (h4 h), fun h => by rw [q_fl_len (by omega)]; exact h5 h, h6⟩, ihk _ _ hk, ihr _ _ hr⟩
theorem q_ht_fl : ∀ (G : aFo) (s g : Nat), qHt (qFl fb s g G) ≤ qHt G := by
  intro G
  induction G with
  | leaf _ => intro s g; exact Nat.le_refl _
  | branch w k r ihk ihr =>
    intro s g
    have e1 := ihk (w / 16) (w % 16)
    have e2 := ihr s g
    rw [qFl, qHt]
    by_cases hd : qDs fb s g (w / 16) (w % 16) (qLn k)
    · rw [if_pos hd, q_ht_app]; omega
    · rw [if_neg hd, qHt]; omega
theorem q_sz_fl : ∀ (G : aFo) (s g : Nat), qSz (qFl fb s g G) ≤ qSz G := by
  intro G
  induction G with
  | leaf _ => intro s g; exact Nat.le_refl _
  | branch w k r ihk ihr =>
    intro s g
    have e1 := ihk (w / 16) (w % 16)
    have e2 := ihr s g
    rw [qFl, qSz]
    by_cases hd : qDs fb s g (w / 16) (w % 16) (qLn k)
    · rw [if_pos hd, q_sz_app]; omega
    · rw [if_neg hd, qSz]; omega
theorem q_sq_fl9 {s g : Nat} (h : s ≠ 0) (G : aFo) : qSq (qFl fb s g G) = qSq G := by
  induction G with
  | leaf _ => rfl
  | branch w k r _ ih =>
    rw [qFl, if_neg (fun hd => h hd.2.1), qSq, qSq, ih]
theorem q_cOk_fS : ∀ (G : aFo) (s g : Nat), qOk fb G → qS (qFl fb s g G) := by
  intro G
  induction G with
  | leaf _ => intro s g _; exact True.intro
  | branch w k r ihk ihr =>
    intro s g h
    rw [qFl]
    by_cases hd : qDs fb s g (w / 16) (w % 16) (qLn k)
    · rw [if_pos hd]
      exact q_fS_app.mpr ⟨ihk _ _ h.2.1, ihr _ _ h.2.2⟩
    · rw [if_neg hd]
      exact ⟨h.1, ihk _ _ h.2.1, ihr _ _ h.2.2⟩
theorem q_fS_cOk : ∀ (G : aFo) (s g : Nat), qS (qFl fb s g G) → qLn (qFl fb s g G) ≤ 8 → qSq (qFl fb s g G) ≤ 1 → qOk fb G := by
  intro G
  induction G with
  | leaf _ => intro s g _ _ _; exact True.intro
  | branch w k r ihk ihr =>
    intro s g h h1 h2
    rw [qFl] at h h1 h2
    by_cases hd : qDs fb s g (w / 16) (w % 16) (qLn k)
    · rw [if_pos hd] at h h1 h2
      rw [q_len_app] at h1
      rw [q_sq_app] at h2
      obtain ⟨h3, h4⟩ := q_fS_app.mp h
      exact ⟨⟨by omega, by omega⟩, ihk _ _ h3 (by omega) (by omega), ihr _ _ h4 (by omega) (by omega)⟩
    · rw [if_neg hd] at h h1 h2
      obtain ⟨⟨h3, h4⟩, h5, h6⟩ := h
      rw [qLn] at h1
      rw [qSq] at h2
      exact ⟨⟨h3, h4⟩, ihk _ _ h5 h3 h4, ihr _ _ h6 (by omega) (by omega)⟩
theorem q_fW_at : ∀ (G : aFo), qW hs G → ∀ i, i < qSz G → (qNd G i).1 ≤ 3 ∧ ((qNd G i).1 = 0 → (qNd G i).2.1 ≤ 12) ∧ ((qNd G i).1 ≠ 0 → (qNd G i).2.1 ≤ 9) ∧ ((qNd G i).1 = 1 ∨ (qNd G i).1 = 3 → (qNd G i).2.2 = 0) ∧ ((qNd G i).1 = 2 → 1 ≤ (qNd G i).2.2) ∧ ((qNd G i).1 ≠ 0 → hs (qNd G i).2.1 = (qNd G i).1) := by
  intro G
  induction G with
  | leaf _ => intro _ i hi; exact absurd hi (Nat.not_lt_zero _)
  | branch w k r ihk ihr =>
    intro h i hi
    have hi : i < 1 + qSz k + qSz r := hi
    rw [qNd]
    by_cases h0 : i = 0
    · rw [if_pos h0]; exact h.1
    · by_cases h1 : i ≤ qSz k
      · rw [if_neg h0, if_pos h1]; exact ihk h.2.1 _ (by omega)
      · rw [if_neg h0, if_neg h1]; exact ihr h.2.2 _ (by omega)
theorem q_fS_node : ∀ (G : aFo) (b d : Nat), aTf T G b d → qS G → ∀ i, b ≤ i → i < b + qSz G → ∃ K : aFo, aTf T K (i + 1) (tdp T i + 1) ∧ tr T i = qLn K ∧ qLn K ≤ 8 ∧ qSq K ≤ 1 := by
  intro G
  induction G with
  | leaf _ => intro b d _ _ i h1 h2; exact absurd h2 (by show ¬ i < b + 0; omega)
  | branch w k r ihk ihr =>
    intro b d h hS i h1 h2
    have h2 : i < b + (1 + qSz k + qSz r) := h2
    by_cases e : i = b
    · subst e
      rw [h.1.2.2.2.2]
      exact ⟨k, h.2.1, h.1.2.2.1, hS.1.1, hS.1.2⟩
    · by_cases e2 : i < b + 1 + qSz k
      · exact ihk _ _ h.2.1 hS.2.1 i (by omega) (by omega)
      · exact ihr _ _ h.2.2 hS.2.2 i (by omega) (by omega)
theorem q_sq_ge : ∀ (K : aFo) (b d : Nat), aTf T K b d → ∀ l, l < qLn K → ts T (wk (tsp T) l b) = 3 → 1 ≤ qSq K := by
  intro K
  induction K with
  | leaf _ => intro b d _ l hl; exact absurd hl (Nat.not_lt_zero _)
  | branch w k r _ ih =>
    intro b d h l hl h3
    have hl : l < 1 + qLn r := hl
    rw [qSq]
    cases l with
    | zero =>
      have : (w / 16) = 3 := h.1.1.symm.trans h3
      rw [if_pos this]; omega
    | succ l =>
      rw [show wk (tsp T) (l + 1) b = wk (tsp T) l (b + tsp T b) from rfl, h.1.2.2.2.1, show b + (1 + qSz k) = b + 1 + qSz k by omega] at h3
      have := ih _ _ h.2.2 l (by omega) h3
      omega
theorem q_sq_two : ∀ (K : aFo) (b d : Nat), aTf T K b d → qSq K ≤ 1 → ∀ j l, j < l → l < qLn K → ts T (wk (tsp T) j b) = 3 → ts T (wk (tsp T) l b) = 3 → False := by
  intro K
  induction K with
  | leaf _ => intro b d _ _ j l _ hl; exact absurd hl (Nat.not_lt_zero _)
  | branch w k r _ ih =>
    intro b d h h1 j l hjl hl hj h3
    have hl : l < 1 + qLn r := hl
    rw [qSq] at h1
    cases l with
    | zero => omega
    | succ l =>
      rw [show wk (tsp T) (l + 1) b = wk (tsp T) l (b + tsp T b) from rfl, h.1.2.2.2.1, show b + (1 + qSz k) = b + 1 + qSz k by omega] at h3
      cases j with
      | zero =>
        have e3 : (w / 16) = 3 := h.1.1.symm.trans hj
        rw [if_pos e3] at h1
        have := q_sq_ge r _ _ h.2.2 l (by omega) h3
        omega
      | succ j =>
        rw [show wk (tsp T) (j + 1) b = wk (tsp T) j (b + tsp T b) from rfl, h.1.2.2.2.1, show b + (1 + qSz k) = b + 1 + qSz k by omega] at hj
        exact ih _ _ h.2.2 (by omega) j l (by omega) (by omega) hj h3
theorem q_ts_f (G : aFo) (i : Nat) : ts (tmF G) i = (qNd G i).1 := (q_at_nd G 0 i).1
theorem q_tg_f (G : aFo) (i : Nat) : tg (tmF G) i = (qNd G i).2.1 := (q_at_nd G 0 i).2.1
theorem q_tr_f (G : aFo) (i : Nat) : tr (tmF G) i = (qNd G i).2.2 := (q_at_nd G 0 i).2.2
theorem q_tWF_f {G : aFo} (h1 : qLn G = 1) (h32 : qSz G ≤ 32) (hW : qW hs G) (hS : qS G) (hh : qHt G ≤ 8) (hq : qSq G = 0) : tWF (tmF G) := by
  have hT := aTf_tm G
  refine ⟨q_tSh_f h1 h32, fun i hi => ?_, fun i j hi hj h2 h3 h4 => ?_, ?_, fun i hi k l hk hl h2 h3 => ?_⟩
  · have hi : i < qSz G := hi
    obtain ⟨a1, a2, a3, a4, a5, a6⟩ := q_fW_at G hW i hi
    obtain ⟨K, -, c2, c3, -⟩ := q_fS_node G 0 0 hT hS i (Nat.zero_le _) (by omega)
    obtain ⟨K', -, -, -, -, c5⟩ := aTf_node G 0 0 hT i (Nat.zero_le _) (by omega)
    rw [← q_ts_f, ← q_tg_f, ← q_tr_f] at *
    exact ⟨a1, by omega, a2, a3, a4, a5, by omega⟩
  · have e1 := (q_fW_at G hW i hi).2.2.2.2.2
    have e2 := (q_fW_at G hW j hj).2.2.2.2.2
    rw [← q_ts_f, ← q_tg_f] at e1 e2
    rw [← e1 h2, ← e2 h3, h4]
  · intro h3
    have := q_sq_ge G 0 0 hT 0 (by omega) h3
    omega
  · have hi : i < qSz G := hi
    obtain ⟨K, c1, c2, c3, c4⟩ := q_fS_node G 0 0 hT hS i (Nat.zero_le _) (by omega)
    rcases Nat.lt_trichotomy k l with e | e | e
    · exact absurd (q_sq_two K _ _ c1 c4 k l e (by omega) h2 h3) id
    · exact e
    · exact absurd (q_sq_two K _ _ c1 c4 l k e (by omega) h3 h2) id
theorem q_fW_of {n : Nat} (hN : tNd T) (hH : ∀ i, i < n → ts T i ≠ 0 → hs (tg T i) = ts T i) (hn : n ≤ tn T) : ∀ (G : aFo) (b d : Nat), aTf T G b d → b + qSz G ≤ n → qW hs G := by
  intro G
  induction G with
  | leaf _ => intro b d _ _; exact True.intro
  | branch w k r ihk ihr =>
    intro b d h hb
    have hb : b + (1 + qSz k + qSz r) ≤ n := hb
    obtain ⟨a1, -, a3, a4, a5, a6, -⟩ := hN b (by omega)
    have a7 := hH b (by omega)
    obtain ⟨h1, h2, h3, -⟩ := h.1
    rw [h1, h2] at a7
    rw [h1, h2] at a3
    rw [h1, h2] at a4
    rw [h1, h3] at a5
    rw [h1, h3] at a6
    rw [h1] at a1
    exact ⟨⟨a1, a3, a4, a5, a6, a7⟩, ihk _ _ h.2.1 (by omega), ihr _ _ h.2.2 (by omega)⟩
theorem q_sq_root {G : aFo} (h1 : qLn G = 1) (hT : aTf T G 0 0) (h3 : ts T 0 ≠ 3) : qSq G = 0 := by
  cases G with
  | leaf _ => rfl
  | branch w k r =>
    have : r = (Lean.RArray.leaf ()) := q_len_0 (by rw [qLn] at h1; omega)
    subst this
    rw [qSq, if_neg (fun e => h3 (hT.1.1.trans e))]
    rfl
theorem q_ht_of : ∀ (G : aFo) (b d m : Nat), aTf T G b d → (∀ i, b ≤ i → i < b + qSz G → tdp T i ≤ m) → G = (Lean.RArray.leaf ()) ∨ d + qHt G ≤ m + 1 := by
  intro G
  induction G with
  | leaf _ => intro b d m _ _; exact Or.inl rfl
  | branch w k r ihk ihr =>
    intro b d m h hm
    right
    have hm : ∀ i, b ≤ i → i < b + (1 + qSz k + qSz r) → tdp T i ≤ m := hm
    have e0 := hm b (Nat.le_refl _) (by omega)
    rw [h.1.2.2.2.2] at e0
    rw [qHt]
    have ek : d + (1 + qHt k) ≤ m + 1 := by
      rcases ihk _ _ m h.2.1 (fun i a c => hm i (by omega) (by omega)) with e | e
      · subst e; show d + (1 + 0) ≤ _; omega
      · omega
    have er : d + qHt r ≤ m + 1 := by
      rcases ihr _ _ m h.2.2 (fun i a c => hm i (by omega) (by omega)) with e | e
      · subst e; show d + 0 ≤ _; omega
      · omega
    omega
