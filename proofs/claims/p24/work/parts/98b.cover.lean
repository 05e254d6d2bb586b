/-! FILLING AND COVERING as functions of forests -/
abbrev pFl : Type := Nat → Option (aFo × Nat)
def pFill (f : pFl) (h : Nat) (X : aFo) (j : Nat) : Option pFl := match f h with
  | none => some (fun x => if x = h then some (X, j) else f x)
  | some v => if pEq v.1 X = true then some f else none
def mt : aFo → aFo → Nat → pFl → Option pFl
  | .leaf _, .leaf _, _, f => some f
  | .leaf _, .branch _ _ _, _, _ => none
  | .branch _ _ _, .leaf _, _, _ => none
  | .branch w P Q, .branch v k r, j, f =>
    if w < 16 then (if v = w ∧ qLn P = qLn k then (mt P k (j + 1) f).bind fun f1 => mt Q r (j + 1 + qSz k) f1 else none)
    else if w < 32 then (pFill f (w % 16) (pBr v k pNil) j).bind fun f1 => mt Q r (j + 1 + qSz k) f1
    else if v < 16 ∨ 32 ≤ v then (pFill f (w % 16) (pBr v pNil pNil) j).bind fun f1 => (if qLn P = qLn k then (mt P k (j + 1) f1).bind fun f2 => mt Q r (j + 1 + qSz k) f2 else none)
    else none
/-- a pattern covers a forest, if its holes stand for s -/
def cov (s : Nat → aFo) : aFo → aFo → Prop
  | .leaf _, .leaf _ => True
  | .leaf _, .branch _ _ _ => False
  | .branch _ _ _, .leaf _ => False
  | .branch w P Q, .branch v k r => (if w < 16 then v = w ∧ cov s P k else if w < 32 then s (w % 16) = pBr v k pNil else (v < 16 ∨ 32 ≤ v) ∧ s (w % 16) = pBr v pNil pNil ∧ cov s P k) ∧ cov s Q r
section PC
variable {s t : Nat → aFo}
theorem cov_len : ∀ (P A : aFo), cov s P A → qLn P = qLn A := by
  intro P
  induction P with
  | leaf _ =>
    intro A h
    cases A with
    | leaf _ => rfl
    | branch _ _ _ => exact False.elim h
  | branch w P Q _ ihQ =>
    intro A h
    cases A with
    | leaf _ => exact False.elim h
    | branch v k r => rw [qLn, qLn, ihQ r h.2]
theorem pFill_of {f : pFl} {h : Nat} {X : aFo} (j : Nat) (hf : ∀ x v, f x = some v → v.1 = s x) (hs : s h = X) : ∃ f1, pFill f h X j = some f1 ∧ ∀ x v, f1 x = some v → v.1 = s x := by
  unfold pFill
  cases e : f h with
  | none =>
    refine ⟨_, rfl, fun x v hv => ?_⟩
    by_cases hx : x = h
    · subst hx
      rw [if_pos rfl] at hv
      cases hv
      exact hs.symm
    · rw [if_neg hx] at hv
      exact hf x v hv
  | some v =>
    show ∃ f1, (if pEq v.1 X = true then some f else none) = some f1 ∧ _
    rw [if_pos ((pEq_iff _ _).mpr ((hf h v e).trans hs))]
    exact ⟨f, rfl, hf⟩
/-- what is covered is matched -/
theorem mt_of : ∀ (P A : aFo) (j : Nat) (f : pFl), cov s P A → (∀ x v, f x = some v → v.1 = s x) → ∃ f', mt P A j f = some f' ∧ ∀ x v, f' x = some v → v.1 = s x := by
  intro P
  induction P with
  | leaf _ =>
    intro A j f h hf
    cases A with
    | leaf _ => exact ⟨f, rfl, hf⟩
    | branch _ _ _ => exact False.elim h
  | branch w P Q ihP ihQ =>
    intro A j f h hf
    cases A with
    | leaf _ => exact False.elim h
    | branch v k r =>
      obtain ⟨h1, h2⟩ := h
      rw [mt]
      by_cases c1 : w < 16
      · rw [if_pos c1] at h1 ⊢
        rw [if_pos ⟨h1.1, cov_len _ _ h1.2⟩]
        obtain ⟨f1, a1, a2⟩ := ihP k (j + 1) f h1.2 hf
        rw [a1]
        exact ihQ r _ f1 h2 a2
      · rw [if_neg c1] at h1 ⊢
        by_cases c2 : w < 32
        · rw [if_pos c2] at h1 ⊢
          obtain ⟨f1, a1, a2⟩ := pFill_of j hf h1
          rw [a1]
          exact ihQ r _ f1 h2 a2
        · rw [if_neg c2] at h1 ⊢
          rw [if_pos h1.1]
          obtain ⟨f1, a1, a2⟩ := pFill_of j hf h1.2.1
          rw [a1]
          show ∃ f', (if qLn P = qLn k then (mt P k (j + 1) f1).bind fun f2 => mt Q r (j + 1 + qSz k) f2 else none) = some f' ∧ _
          rw [if_pos (cov_len _ _ h1.2.2)]
          obtain ⟨f2, b1, b2⟩ := ihP k (j + 1) f1 h1.2.2 a2
          rw [b1]
          exact ihQ r _ f2 h2 b2
theorem pFill_inv {f f1 : pFl} {h : Nat} {X : aFo} {j : Nat} (e : pFill f h X j = some f1) : (∀ x v, f x = some v → f1 x = some v) ∧ ∃ v, f1 h = some v ∧ v.1 = X := by
  unfold pFill at e
  cases c : f h with
  | none =>
    rw [c] at e
    cases e
    refine ⟨fun x v hv => ?_, ⟨(X, j), if_pos rfl, rfl⟩⟩
    by_cases hx : x = h
    · subst hx; rw [c] at hv; cases hv
    · show (if x = h then _ else _) = _
      rw [if_neg hx]; exact hv
  | some v =>
    rw [c] at e
    replace e : (if pEq v.1 X = true then some f else none) = some f1 := e
    by_cases q : pEq v.1 X = true
    · rw [if_pos q] at e
      cases e
      exact ⟨fun _ _ hv => hv, ⟨v, c, (pEq_iff _ _).mp q⟩⟩
    · rw [if_neg q] at e; cases e
/-- what is matched is covered -/
theorem mt_snd : ∀ (P A : aFo) (j : Nat) (f f' : pFl), mt P A j f = some f' → (∀ x v, f x = some v → f' x = some v) ∧ ∀ s : Nat → aFo, (∀ x v, f' x = some v → s x = v.1) → cov s P A := by
  intro P
  induction P with
  | leaf _ =>
    intro A j f f' h
    cases A with
    | leaf _ => rw [mt] at h; cases h; exact ⟨fun _ _ h => h, fun _ _ => True.intro⟩
    | branch _ _ _ => rw [mt] at h; cases h
  | branch w P Q ihP ihQ =>
    intro A j f f' h
    cases A with
    | leaf _ => rw [mt] at h; cases h
    | branch v k r =>
      rw [mt] at h
      by_cases c1 : w < 16
      · rw [if_pos c1] at h
        by_cases c2 : v = w ∧ qLn P = qLn k
        · rw [if_pos c2] at h
          obtain ⟨f1, a1, a2⟩ := pBind.mp h
          obtain ⟨b1, b2⟩ := ihP _ _ _ _ a1
          obtain ⟨d1, d2⟩ := ihQ _ _ _ _ a2
          refine ⟨fun x y hy => d1 x y (b1 x y hy), fun s hs => ⟨?_, d2 s hs⟩⟩
          rw [if_pos c1]
          exact ⟨c2.1, b2 s fun x y hy => hs x y (d1 x y hy)⟩
        · rw [if_neg c2] at h; cases h
      · rw [if_neg c1] at h
        by_cases c2 : w < 32
        · rw [if_pos c2] at h
          obtain ⟨f1, a1, a2⟩ := pBind.mp h
          obtain ⟨b1, y, b2, b3⟩ := pFill_inv a1
          obtain ⟨d1, d2⟩ := ihQ _ _ _ _ a2
          refine ⟨fun x y hy => d1 x y (b1 x y hy), fun s hs => ⟨?_, d2 s hs⟩⟩
          rw [if_neg c1, if_pos c2]
          exact (hs _ _ (d1 _ _ b2)).trans b3
        · rw [if_neg c2] at h
          by_cases c3 : v < 16 ∨ 32 ≤ v
          · rw [if_pos c3] at h
            obtain ⟨f1, a1, a2⟩ := pBind.mp h
            by_cases c4 : qLn P = qLn k
            · rw [if_pos c4] at a2
              obtain ⟨f2, a3, a4⟩ := pBind.mp a2
              obtain ⟨b1, y, b2, b3⟩ := pFill_inv a1
              obtain ⟨g1, g2⟩ := ihP _ _ _ _ a3
              obtain ⟨d1, d2⟩ := ihQ _ _ _ _ a4
              refine ⟨fun x y hy => d1 x y (g1 x y (b1 x y hy)), fun s hs => ⟨?_, d2 s hs⟩⟩
              rw [if_neg c1, if_neg c2]
              exact ⟨c3, (hs _ _ (d1 _ _ (g1 _ _ b2))).trans b3, g2 s fun x y hy => hs x y (d1 x y hy)⟩
            · rw [if_neg c4] at a2; cases a2
          · rw [if_neg c3] at h; cases h
theorem cov_fun : ∀ (P x y : aFo), cov s P x → cov s P y → x = y := by
  intro P
  induction P with
  | leaf _ =>
    intro x y hx hy
    cases x with
    | leaf _ =>
      cases y with
      | leaf _ => rfl
      | branch _ _ _ => exact False.elim hy
    | branch _ _ _ => exact False.elim hx
  | branch w P Q ihP ihQ =>
    intro x y hx hy
    cases x with
    | leaf _ => exact False.elim hx
    | branch v k r =>
      cases y with
      | leaf _ => exact False.elim hy
      | branch v' k' r' =>
        obtain ⟨h1, h2⟩ := hx
        obtain ⟨g1, g2⟩ := hy
        have e := ihQ _ _ h2 g2
        by_cases c1 : w < 16
        · rw [if_pos c1] at h1 g1
          rw [h1.1, g1.1, ihP _ _ h1.2 g1.2, e]
        · rw [if_neg c1] at h1 g1
          by_cases c2 : w < 32
          · rw [if_pos c2] at h1 g1
            have := h1.symm.trans g1
            injection this with e1 e2 _
            rw [e1, e2, e]
          · rw [if_neg c2] at h1 g1
            have := h1.2.1.symm.trans g1.2.1
            injection this with e1 _ _
            rw [e1, ihP _ _ h1.2.2 g1.2.2, e]
/-- a pattern without holes for heads -/
def pNH : aFo → Prop
  | .leaf _ => True
  | .branch w k r => w < 32 ∧ pNH k ∧ pNH r
theorem cov_tr : ∀ (P Q A : aFo), cov s P Q → cov t Q A → pNH P → cov (fun h => @Classical.epsilon aFo ⟨pNil⟩ (fun x => cov t (s h) x)) P A := by
  intro P
  induction P with
  | leaf _ =>
    intro Q A h1 h2 _
    cases Q with
    | branch _ _ _ => exact False.elim h1
    | leaf _ =>
      cases A with
      | leaf _ => exact True.intro
      | branch _ _ _ => exact False.elim h2
  | branch w P P' ihP ihP' =>
    intro Q A h1 h2 h3
    cases Q with
    | leaf _ => exact False.elim h1
    | branch q K R =>
      cases A with
      | leaf _ => exact False.elim h2
      | branch v k r =>
        obtain ⟨a1, a2⟩ := h1
        obtain ⟨b1, b2⟩ := h2
        obtain ⟨c1, c2, c3⟩ := h3
        refine ⟨?_, ihP' _ _ a2 b2 c3⟩
        by_cases c : w < 16
        · rw [if_pos c] at a1 ⊢
          rw [if_pos (by omega)] at b1
          exact ⟨b1.1.trans a1.1, ihP _ _ a1.2 b1.2 c2⟩
        · rw [if_neg c, if_pos c1] at a1 ⊢
          have hq : cov t (s (w % 16)) (pBr v k pNil) := by
            rw [a1]
            exact ⟨b1, True.intro⟩
          exact cov_fun _ _ _ (Classical.epsilon_spec (p := fun x => cov t (s (w % 16)) x) ⟨_, hq⟩) hq
/-- a pattern covers itself -/
theorem cov_self {hs : Nat → Nat} : ∀ P : aFo, qW hs P → (∀ i, i < qSz P → (qNd P i).1 ≠ 3) → cov (fun h => pBr (hs h * 16 + h) pNil pNil) P P := by
  intro P
  induction P with
  | leaf _ => intro _ _; exact True.intro
  | branch w P Q ihP ihQ =>
    intro h h3
    obtain ⟨⟨a1, a2, a3, a4, a5, a6⟩, b, c⟩ := h
    have w3 : w / 16 ≠ 3 := by
      have := h3 0 (by rw [qSz]; omega)
      rw [qNd, if_pos rfl] at this
      exact this
    have kp : ∀ i, i < qSz P → (qNd P i).1 ≠ 3 := fun i hi => by
      have := h3 (i + 1) (by rw [qSz]; omega)
      rw [qNd, if_neg (by omega), if_pos (by omega)] at this
      exact this
    have kq : ∀ i, i < qSz Q → (qNd Q i).1 ≠ 3 := fun i hi => by
      have := h3 (i + 1 + qSz P) (by rw [qSz]; omega)
      rw [qNd, if_neg (by omega), if_neg (by omega), show i + 1 + qSz P - 1 - qSz P = i by omega] at this
      exact this
    refine ⟨?_, ihQ c kq⟩
    by_cases c1 : w < 16
    · rw [if_pos c1]; exact ⟨rfl, ihP b kp⟩
    · rw [if_neg c1]
      have e : hs (w % 16) * 16 + w % 16 = w := by rw [a6 (by omega)]; omega
      by_cases c2 : w < 32
      · rw [if_pos c2]
        have : P = pNil := q_len_0 (a4 (Or.inl (by omega)))
        rw [this]
        show pBr _ pNil pNil = _
        rw [e]
      · rw [if_neg c2]
        refine ⟨Or.inr (by omega), ?_, ihP b kp⟩
        show pBr _ pNil pNil = _
        rw [e]
end PC
/-- the parts of the first, and of the second -/
def pFA (tb : pTb) : pFl := fun h => (tb[h]?).map fun e => (e.2.1, e.2.2.2.1)
def pFB (tb : pTb) : pFl := fun h => (tb[h]?).map fun e => (e.2.2.1, e.2.2.2.2)
def pSA (tb : pTb) (h : Nat) : aFo := match tb[h]? with | none => pNil | some e => e.2.1
def pSB (tb : pTb) (h : Nat) : aFo := match tb[h]? with | none => pNil | some e => e.2.2.1
theorem pFB_sw (tb : pTb) : pFA (tb.map pSw) = pFB tb := by
  funext h
  unfold pFA pFB
  rw [List.getElem?_map, Option.map_map]
  rfl
section PM
variable {hd : Bool}
theorem pFill_hole {tb t1 : pTb} {w g i j : Nat} {X Y : aFo} (h : pHole tb w X Y i j = some (g, t1)) : pFill (pFA tb) g X i = some (pFA t1) := by
  rcases pHole_inv h with ⟨h1, rfl, h3⟩ | ⟨rfl, h2, rfl, h4⟩
  · obtain ⟨e, e1, -, e3, -⟩ := pIdx_at w X Y t1 (by omega)
    rw [← h3] at e1
    unfold pFill
    rw [show pFA t1 g = some (e.2.1, e.2.2.2.1) from by unfold pFA; rw [e1]; rfl]
    show (if pEq e.2.1 X = true then _ else _) = _
    rw [if_pos ((pEq_iff _ _).mpr e3)]
  · unfold pFill
    rw [show pFA tb tb.length = none from by unfold pFA; rw [List.getElem?_eq_none (Nat.le_refl _)]; rfl]
    show some _ = some _
    congr 1
    funext x
    by_cases hx : x = tb.length
    · subst hx
      rw [if_pos rfl]
      unfold pFA
      rw [List.getElem?_append_right (Nat.le_refl _), Nat.sub_self]
      rfl
    · rw [if_neg hx]
      unfold pFA
      rcases Nat.lt_or_ge x tb.length with h | h
      · rw [List.getElem?_append_left h]
      · rw [List.getElem?_eq_none h, List.getElem?_eq_none (by rw [List.length_append]; show tb.length + 1 ≤ x; omega)]
/-- the join covers the first term, its holes filled by the first parts -/
theorem jn_mtA : ∀ (A B : aFo) (i j : Nat) (tb : pTb) (P : aFo) (tb' : pTb), jn hd A B i j tb = some (P, tb') → tb.length ≤ 10 → mt P A i (pFA tb) = some (pFA tb') := by
  intro A
  induction A with
  | leaf _ => intro B i j tb P tb' h _; rw [jn] at h; cases h; rfl
  | branch w k r ihk ihr =>
    intro B i j tb P tb' h hl
    cases B with
    | leaf _ => rw [jn] at h; cases h
    | branch w' k' r' =>
      rcases jn_inv h with ⟨c, x, t1, y, h1, h2, rfl⟩ | ⟨c, g, t1, y, h1, h2, rfl⟩ | ⟨c, g, t1, x, t2, y, h1, h2, h3, rfl⟩
      · obtain ⟨c1, -, -⟩ := pRule_0 c
        have l1 := (jn_grow _ _ _ _ _ _ _ h1).2 hl
        rw [mt, if_pos c1, if_pos ⟨rfl, (jn_len _ _ _ _ _ _ _ h1).1⟩, ihk _ _ _ _ _ _ h1 hl]
        exact ihr _ _ _ _ _ _ h2 l1
      · obtain ⟨-, l0, l1, -⟩ := pHole_fin h1
        have l1 := l1 hl
        rw [mt, if_neg (by omega), if_pos (by omega), show (16 + g) % 16 = g by omega, pFill_hole h1]
        exact ihr _ _ _ _ _ _ h2 l1
      · obtain ⟨-, c1, -⟩ := pRule_2 c
        obtain ⟨-, l0, l1, -⟩ := pHole_fin h1
        have l1 := l1 hl
        have l2 := (jn_grow _ _ _ _ _ _ _ h2).2 l1
        rw [mt, if_neg (by omega), if_neg (by omega), if_pos (Or.inl c1), show (32 + g) % 16 = g by omega, pFill_hole h1]
        show (if qLn x = qLn k then _ else _) = _
        rw [if_pos (jn_len _ _ _ _ _ _ _ h2).1, ihk _ _ _ _ _ _ h2 l1]
        exact ihr _ _ _ _ _ _ h3 l2
theorem jn_mtB {A B : aFo} {i j : Nat} {tb : pTb} {P : aFo} {tb' : pTb} (h : jn hd A B i j tb = some (P, tb')) (hn : qLn A = qLn B) (hl : tb.length ≤ 10) : mt P B j (pFB tb) = some (pFB tb') := by
  have := jn_sw (hd := hd) A B i j tb hn
  rw [h] at this
  rw [← pFB_sw, ← pFB_sw]
  exact jn_mtA B A j i _ P _ this (by rw [List.length_map]; exact hl)
theorem jn_covA {A B : aFo} {i j : Nat} {tb : pTb} {P : aFo} {tb' : pTb} (h : jn hd A B i j tb = some (P, tb')) (hl : tb.length ≤ 10) : cov (pSA tb') P A :=
  (mt_snd _ _ _ _ _ (jn_mtA _ _ _ _ _ _ _ h hl)).2 _ fun x v hv => by
    unfold pFA at hv
    unfold pSA
    cases e : tb'[x]? with
    | none => rw [e] at hv; cases hv
    | some y => rw [e] at hv; cases hv; rfl
theorem jn_covB {A B : aFo} {i j : Nat} {tb : pTb} {P : aFo} {tb' : pTb} (h : jn hd A B i j tb = some (P, tb')) (hn : qLn A = qLn B) (hl : tb.length ≤ 10) : cov (pSB tb') P B :=
  (mt_snd _ _ _ _ _ (jn_mtB h hn hl)).2 _ fun x v hv => by
    unfold pFB at hv
    unfold pSB
    cases e : tb'[x]? with
    | none => rw [e] at hv; cases hv
    | some y => rw [e] at hv; cases hv; rfl
theorem jn_NH : ∀ (A B : aFo) (i j : Nat) (tb : pTb) (P : aFo) (tb' : pTb), jn false A B i j tb = some (P, tb') → tb.length ≤ 10 → pNH P := by
  intro A
  induction A with
  | leaf _ => intro B i j tb P tb' h _; rw [jn] at h; cases h; exact True.intro
  | branch w k r ihk ihr =>
    intro B i j tb P tb' h hl
    cases B with
    | leaf _ => rw [jn] at h; cases h
    | branch w' k' r' =>
      rcases jn_inv h with ⟨c, x, t1, y, h1, h2, rfl⟩ | ⟨c, g, t1, y, h1, h2, rfl⟩ | ⟨c, g, t1, x, t2, y, h1, h2, h3, rfl⟩
      · obtain ⟨c1, -, -⟩ := pRule_0 c
        have l1 := (jn_grow _ _ _ _ _ _ _ h1).2 hl
        exact ⟨by omega, ihk _ _ _ _ _ _ h1 hl, ihr _ _ _ _ _ _ h2 l1⟩
      · obtain ⟨-, l0, l1, -⟩ := pHole_fin h1
        have l1 := l1 hl
        exact ⟨by omega, True.intro, ihr _ _ _ _ _ _ h2 l1⟩
      · exact absurd (pRule_2 c).1 (by decide)
/-- what entries of a table are: no hole could be narrower, no two are the same -/
def pOk (tb : pTb) : Prop := (∀ (h : Nat) (e : pEn), tb[h]? = some e → (e.1 = 1 ∧ ∃ w k w' k', e.2.1 = pBr w k pNil ∧ e.2.2.1 = pBr w' k' pNil ∧ ¬ (w < 16 ∧ w' < 16 ∧ w = w' ∧ qLn k = qLn k')) ∨ (e.1 = 2 ∧ ∃ w w', e.2.1 = pBr w pNil pNil ∧ e.2.2.1 = pBr w' pNil pNil ∧ w ≠ w' ∧ w < 16 ∧ w' < 16)) ∧ ∀ (g h : Nat) (e f : pEn), tb[g]? = some e → tb[h]? = some f → e.1 = f.1 → e.2.1 = f.2.1 → e.2.2.1 = f.2.2.1 → g = h
theorem pOk_hole {tb t1 : pTb} {s g i j : Nat} {X Y : aFo} (h : pHole tb s X Y i j = some (g, t1)) (ho : pOk tb) (hn : (s = 1 ∧ ∃ w k w' k', X = pBr w k pNil ∧ Y = pBr w' k' pNil ∧ ¬ (w < 16 ∧ w' < 16 ∧ w = w' ∧ qLn k = qLn k')) ∨ (s = 2 ∧ ∃ w w', X = pBr w pNil pNil ∧ Y = pBr w' pNil pNil ∧ w ≠ w' ∧ w < 16 ∧ w' < 16)) : pOk t1 := by
  rcases pHole_inv h with ⟨h1, rfl, h3⟩ | ⟨rfl, h2, rfl, h4⟩
  · exact ho
  · have key : ∀ x e, (tb ++ [(s, X, Y, i, j)])[x]? = some e → (x < tb.length ∧ tb[x]? = some e) ∨ (x = tb.length ∧ e = (s, X, Y, i, j)) := fun x e he => by
      rcases Nat.lt_or_ge x tb.length with q | q
      · rw [List.getElem?_append_left q] at he
        exact Or.inl ⟨q, he⟩
      · rw [List.getElem?_append_right q] at he
        by_cases hx : x = tb.length
        · subst hx
          rw [Nat.sub_self] at he
          cases he
          exact Or.inr ⟨rfl, rfl⟩
        · rw [List.getElem?_eq_none (by show 1 ≤ x - tb.length; omega)] at he
          cases he
    refine ⟨fun x e he => ?_, fun x y e f he hf q1 q2 q3 => ?_⟩
    · rcases key x e he with ⟨-, q⟩ | ⟨-, rfl⟩
      · exact ho.1 x e q
      · exact hn
    · rcases key x e he with ⟨z1, z2⟩ | ⟨z1, rfl⟩
      · rcases key y f hf with ⟨z3, z4⟩ | ⟨z3, rfl⟩
        · exact ho.2 x y e f z2 z4 q1 q2 q3
        · exact absurd ⟨q1, q2, q3⟩ (pIdx_no s X Y tb h4 x e z2)
      · rcases key y f hf with ⟨z3, z4⟩ | ⟨z3, rfl⟩
        · exact absurd ⟨q1.symm, q2.symm, q3.symm⟩ (pIdx_no s X Y tb h4 y f z4)
        · omega
theorem jn_ok : ∀ (A B : aFo) (i j : Nat) (tb : pTb) (P : aFo) (tb' : pTb), jn hd A B i j tb = some (P, tb') → pOk tb → pOk tb' := by
  intro A
  induction A with
  | leaf _ => intro B i j tb P tb' h ho; rw [jn] at h; cases h; exact ho
  | branch w k r ihk ihr =>
    intro B i j tb P tb' h ho
    cases B with
    | leaf _ => rw [jn] at h; cases h
    | branch w' k' r' =>
      rcases jn_inv h with ⟨c, x, t1, y, h1, h2, rfl⟩ | ⟨c, g, t1, y, h1, h2, rfl⟩ | ⟨c, g, t1, x, t2, y, h1, h2, h3, rfl⟩
      · exact ihr _ _ _ _ _ _ h2 (ihk _ _ _ _ _ _ h1 ho)
      · exact ihr _ _ _ _ _ _ h2 (pOk_hole h1 ho (Or.inl ⟨rfl, _, _, _, _, rfl, rfl, pRule_1 c⟩))
      · obtain ⟨-, c1, c2, c3, -⟩ := pRule_2 c
        exact ihr _ _ _ _ _ _ h3 (ihk _ _ _ _ _ _ h2 (pOk_hole h1 ho (Or.inr ⟨rfl, _, _, rfl, rfl, c3, c1, c2⟩)))
theorem pOk_nil : pOk [] := ⟨fun h e he => by simp at he, fun g h e f he => by simp at he⟩
/-- the sorts of holes -/
def pHs (tb : pTb) (h : Nat) : Nat := match tb[h]? with | none => 0 | some e => e.1
theorem pHs_app {tb : pTb} {h : Nat} {e : pEn} (he : tb[h]? = some e) (u : pTb) : pHs (tb ++ u) h = e.1 := by
  have hh : h < tb.length := by
    rcases Nat.lt_or_ge h tb.length with q | q
    · exact q
    · rw [List.getElem?_eq_none q] at he; cases he
  unfold pHs
  rw [List.getElem?_append_left hh, he]
theorem jn_W {hs : Nat → Nat} : ∀ (A B : aFo) (i j : Nat) (tb : pTb) (P : aFo) (tb' : pTb), jn hd A B i j tb = some (P, tb') → qW hs A → tb.length ≤ 10 → ∀ u, qW (pHs (tb' ++ u)) P := by
  intro A
  induction A with
  | leaf _ => intro B i j tb P tb' h _ _ u; rw [jn] at h; cases h; exact True.intro
  | branch w k r ihk ihr =>
    intro B i j tb P tb' h hw hl u
    obtain ⟨⟨a1, a2, -⟩, hk, hr⟩ := hw
    cases B with
    | leaf _ => rw [jn] at h; cases h
    | branch w' k' r' =>
      rcases jn_inv h with ⟨c, x, t1, y, h1, h2, rfl⟩ | ⟨c, g, t1, y, h1, h2, rfl⟩ | ⟨c, g, t1, x, t2, y, h1, h2, h3, rfl⟩
      · obtain ⟨c1, -, -⟩ := pRule_0 c
        have l1 := (jn_grow _ _ _ _ _ _ _ h1).2 hl
        obtain ⟨e, rfl⟩ := (jn_grow _ _ _ _ _ _ _ h2).1
        refine ⟨⟨by omega, a2, fun q => by omega, fun q => by omega, fun q => by omega, fun q => by omega⟩, ?_, ihr _ _ _ _ _ _ h2 hr l1 u⟩
        rw [List.append_assoc]
        exact ihk _ _ _ _ _ _ h1 hk hl _
      · obtain ⟨-, l0, l1, ⟨e, e1, e2, -⟩, -⟩ := pHole_fin h1
        have l1 := l1 hl
        obtain ⟨e', rfl⟩ := (jn_grow _ _ _ _ _ _ _ h2).1
        refine ⟨⟨by omega, fun q => by omega, fun q => by omega, fun q => rfl, fun q => by omega, fun q => ?_⟩, True.intro, ihr _ _ _ _ _ _ h2 hr l1 u⟩
        rw [show (16 + g) % 16 = g by omega, List.append_assoc, pHs_app e1, e2]
        omega
      · obtain ⟨-, c1, -, -, -, c5⟩ := pRule_2 c
        obtain ⟨-, l0, l1, ⟨e, e1, e2, -⟩, -⟩ := pHole_fin h1
        have l1 := l1 hl
        have l2 := (jn_grow _ _ _ _ _ _ _ h2).2 l1
        obtain ⟨e', rfl⟩ := (jn_grow _ _ _ _ _ _ _ h2).1
        obtain ⟨e'', rfl⟩ := (jn_grow _ _ _ _ _ _ _ h3).1
        refine ⟨⟨by omega, fun q => by omega, fun q => by omega, fun q => by omega, fun q => by rw [(jn_len _ _ _ _ _ _ _ h2).1]; exact c5, fun q => ?_⟩, ?_, ihr _ _ _ _ _ _ h3 hr l2 u⟩
        · rw [show (32 + g) % 16 = g by omega, List.append_assoc, List.append_assoc, pHs_app e1, e2]
          omega
        · rw [List.append_assoc]
          exact ihk _ _ _ _ _ _ h2 hk l1 _
end PM
