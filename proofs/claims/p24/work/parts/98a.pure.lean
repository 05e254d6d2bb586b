/-! JOINING AND MATCHING as functions of forests (a node's number is 16 times its sort and its own number) -/
abbrev pNil : aFo := Lean.RArray.leaf ()
abbrev pBr (w : Nat) (k r : aFo) : aFo := Lean.RArray.branch w k r
/-- an entry of the table of holes: sort, the two parts, their places -/
abbrev pEn : Type := Nat × aFo × aFo × Nat × Nat
abbrev pTb : Type := List pEn
def pEq : aFo → aFo → Bool
  | .leaf _, .leaf _ => true
  | .leaf _, .branch _ _ _ => false
  | .branch _ _ _, .leaf _ => false
  | .branch w k r, .branch w' k' r' => decide (w = w') && (pEq k k' && pEq r r')
theorem pEq_iff : ∀ a b : aFo, pEq a b = true ↔ a = b := by
  intro a
  induction a with
  | leaf _ =>
    intro b
    cases b with
    | leaf _ => exact ⟨fun _ => rfl, fun _ => rfl⟩
    | branch _ _ _ => exact ⟨fun h => (by cases h), fun h => (by cases h)⟩
  | branch w k r ihk ihr =>
    intro b
    cases b with
    | leaf _ => exact ⟨fun h => (by cases h), fun h => (by cases h)⟩
    | branch w' k' r' =>
      rw [pEq, Bool.and_eq_true, Bool.and_eq_true, decide_eq_true_iff, ihk, ihr]
      constructor
      · rintro ⟨rfl, rfl, rfl⟩; rfl
      · intro h
        injection h with h1 h2 h3
        exact ⟨h1, h2, h3⟩
def pKey (e : pEn) (s : Nat) (X Y : aFo) : Bool := decide (e.1 = s) && (pEq e.2.1 X && pEq e.2.2.1 Y)
theorem pKey_iff {e : pEn} {s : Nat} {X Y : aFo} : pKey e s X Y = true ↔ e.1 = s ∧ e.2.1 = X ∧ e.2.2.1 = Y := by
  rw [pKey, Bool.and_eq_true, Bool.and_eq_true, decide_eq_true_iff, pEq_iff, pEq_iff]
/-- the first entry for a pair; behind the last: there is none -/
def pIdx : pTb → Nat → aFo → aFo → Nat
  | [], _, _, _ => 0
  | e :: tb, s, X, Y => if pKey e s X Y = true then 0 else pIdx tb s X Y + 1
theorem pIdx_le (s : Nat) (X Y : aFo) : ∀ tb : pTb, pIdx tb s X Y ≤ tb.length := by
  intro tb
  induction tb with
  | nil => exact Nat.le_refl _
  | cons e tb ih =>
    rw [pIdx, List.length_cons]
    by_cases h : pKey e s X Y = true
    · rw [if_pos h]; omega
    · rw [if_neg h]; omega
theorem pIdx_at (s : Nat) (X Y : aFo) : ∀ tb : pTb, pIdx tb s X Y < tb.length → ∃ e, tb[pIdx tb s X Y]? = some e ∧ e.1 = s ∧ e.2.1 = X ∧ e.2.2.1 = Y := by
  intro tb
  induction tb with
  | nil => intro h; exact absurd h (Nat.not_lt_zero _)
  | cons e tb ih =>
    intro h
    rw [pIdx, List.length_cons] at h
    rw [pIdx]
    by_cases hk : pKey e s X Y = true
    · rw [if_pos hk]
      exact ⟨e, rfl, pKey_iff.mp hk⟩
    · rw [if_neg hk] at h ⊢
      rw [List.getElem?_cons_succ]
      exact ih (by omega)
theorem pIdx_no (s : Nat) (X Y : aFo) : ∀ tb : pTb, pIdx tb s X Y = tb.length → ∀ (h : Nat) (e : pEn), tb[h]? = some e → ¬ (e.1 = s ∧ e.2.1 = X ∧ e.2.2.1 = Y) := by
  intro tb
  induction tb with
  | nil => intro _ h e he; simp at he
  | cons e tb ih =>
    intro h x y he
    rw [pIdx, List.length_cons] at h
    by_cases hk : pKey e s X Y = true
    · rw [if_pos hk] at h; omega
    · rw [if_neg hk] at h
      cases x with
      | zero =>
        rw [List.getElem?_cons_zero] at he
        cases he
        exact fun q => hk (pKey_iff.mpr q)
      | succ x =>
        rw [List.getElem?_cons_succ] at he
        exact ih (by omega) x y he
theorem pIdx_first (s : Nat) (X Y : aFo) : ∀ (tb : pTb) (h : Nat) (e : pEn), tb[h]? = some e → e.1 = s → e.2.1 = X → e.2.2.1 = Y → pIdx tb s X Y ≤ h := by
  intro tb
  induction tb with
  | nil => intro h e he; simp at he
  | cons e tb ih =>
    intro x y he h1 h2 h3
    rw [pIdx]
    by_cases hk : pKey e s X Y = true
    · rw [if_pos hk]; omega
    · rw [if_neg hk]
      cases x with
      | zero =>
        rw [List.getElem?_cons_zero] at he
        cases he
        exact absurd (pKey_iff.mpr ⟨h1, h2, h3⟩) hk
      | succ x =>
        rw [List.getElem?_cons_succ] at he
        have := ih x y he h1 h2 h3
        omega
/-- an entry that is there stays where it is -/
theorem pIdx_app (s : Nat) (X Y : aFo) (u : pTb) : ∀ tb : pTb, pIdx tb s X Y < tb.length → pIdx (tb ++ u) s X Y = pIdx tb s X Y := by
  intro tb
  induction tb with
  | nil => intro h; exact absurd h (Nat.not_lt_zero _)
  | cons e tb ih =>
    intro h
    rw [pIdx, List.length_cons] at h
    rw [List.cons_append, pIdx, pIdx]
    by_cases hk : pKey e s X Y = true
    · rw [if_pos hk, if_pos hk]
    · rw [if_neg hk] at h
      rw [if_neg hk, if_neg hk, ih (by omega)]
theorem pIdx_new (s : Nat) (X Y : aFo) (i j : Nat) : ∀ tb : pTb, pIdx tb s X Y = tb.length → pIdx (tb ++ [(s, X, Y, i, j)]) s X Y = tb.length := by
  intro tb
  induction tb with
  | nil =>
    intro _
    rw [List.nil_append, pIdx, if_pos (pKey_iff.mpr ⟨rfl, rfl, rfl⟩)]
    rfl
  | cons e tb ih =>
    intro h
    rw [pIdx, List.length_cons] at h
    rw [List.cons_append, pIdx, List.length_cons]
    by_cases hk : pKey e s X Y = true
    · rw [if_pos hk] at h; omega
    · rw [if_neg hk] at h
      rw [if_neg hk, ih (by omega)]
/-- the hole for a pair -/
def pHole (tb : pTb) (s : Nat) (X Y : aFo) (i j : Nat) : Option (Nat × pTb) :=
  if pIdx tb s X Y < tb.length then some (pIdx tb s X Y, tb) else if tb.length < 10 then some (tb.length, tb ++ [(s, X, Y, i, j)]) else none
/-- which rule joins two nodes: 0 the same symbol, 1 a hole for terms, 2 a hole for heads -/
def pRule (hd : Bool) (w n w' n' : Nat) : Nat := if w < 16 ∧ w' < 16 ∧ w = w' ∧ n = n' then 0 else if hd = true ∧ w < 16 ∧ w' < 16 ∧ w ≠ w' ∧ n = n' ∧ 0 < n then 2 else 1
def jn (hd : Bool) : aFo → aFo → Nat → Nat → pTb → Option (aFo × pTb)
  | .leaf _, _, _, _, tb => some (pNil, tb)
  | .branch _ _ _, .leaf _, _, _, _ => none
  | .branch w k r, .branch w' k' r', i, j, tb =>
    if pRule hd w (qLn k) w' (qLn k') = 0 then
      (jn hd k k' (i + 1) (j + 1) tb).bind fun x => (jn hd r r' (i + 1 + qSz k) (j + 1 + qSz k') x.2).bind fun y => some (pBr w x.1 y.1, y.2)
    else if pRule hd w (qLn k) w' (qLn k') = 1 then
      (pHole tb 1 (pBr w k pNil) (pBr w' k' pNil) i j).bind fun h => (jn hd r r' (i + 1 + qSz k) (j + 1 + qSz k') h.2).bind fun y => some (pBr (16 + h.1) pNil y.1, y.2)
    else
      (pHole tb 2 (pBr w pNil pNil) (pBr w' pNil pNil) i j).bind fun h => (jn hd k k' (i + 1) (j + 1) h.2).bind fun x => (jn hd r r' (i + 1 + qSz k) (j + 1 + qSz k') x.2).bind fun y => some (pBr (32 + h.1) x.1 y.1, y.2)
theorem pBind {α β : Type} {a : Option α} {f : α → Option β} {r : β} : a.bind f = some r ↔ ∃ x, a = some x ∧ f x = some r := by
  cases a with
  | none => exact ⟨fun h => (by cases h), fun ⟨x, h, _⟩ => (by cases h)⟩
  | some x => exact ⟨fun h => ⟨x, rfl, h⟩, fun ⟨y, h, g⟩ => by cases h; exact g⟩
section PJ
variable {hd : Bool} {k r k' r' P A B : aFo} {w w' i j : Nat} {tb tb' : pTb}
/-- how a join of two nodes came about -/
theorem jn_inv (h : jn hd (pBr w k r) (pBr w' k' r') i j tb = some (P, tb')) :
    (pRule hd w (qLn k) w' (qLn k') = 0 ∧ ∃ x t1 y, jn hd k k' (i + 1) (j + 1) tb = some (x, t1) ∧ jn hd r r' (i + 1 + qSz k) (j + 1 + qSz k') t1 = some (y, tb') ∧ P = pBr w x y) ∨
    (pRule hd w (qLn k) w' (qLn k') = 1 ∧ ∃ g t1 y, pHole tb 1 (pBr w k pNil) (pBr w' k' pNil) i j = some (g, t1) ∧ jn hd r r' (i + 1 + qSz k) (j + 1 + qSz k') t1 = some (y, tb') ∧ P = pBr (16 + g) pNil y) ∨
    (pRule hd w (qLn k) w' (qLn k') = 2 ∧ ∃ g t1 x t2 y, pHole tb 2 (pBr w pNil pNil) (pBr w' pNil pNil) i j = some (g, t1) ∧ jn hd k k' (i + 1) (j + 1) t1 = some (x, t2) ∧ jn hd r r' (i + 1 + qSz k) (j + 1 + qSz k') t2 = some (y, tb') ∧ P = pBr (32 + g) x y) := by
  rw [jn] at h
  by_cases c0 : pRule hd w (qLn k) w' (qLn k') = 0
  · rw [if_pos c0] at h
    obtain ⟨x, h1, h2⟩ := pBind.mp h
    obtain ⟨y, h3, h4⟩ := pBind.mp h2
    cases h4
    exact Or.inl ⟨c0, x.1, x.2, y.1, h1, h3, rfl⟩
  · rw [if_neg c0] at h
    by_cases c1 : pRule hd w (qLn k) w' (qLn k') = 1
    · rw [if_pos c1] at h
      obtain ⟨x, h1, h2⟩ := pBind.mp h
      obtain ⟨y, h3, h4⟩ := pBind.mp h2
      cases h4
      exact Or.inr (Or.inl ⟨c1, x.1, x.2, y.1, h1, h3, rfl⟩)
    · rw [if_neg c1] at h
      obtain ⟨x, h1, h2⟩ := pBind.mp h
      obtain ⟨z, h5, h6⟩ := pBind.mp h2
      obtain ⟨y, h3, h4⟩ := pBind.mp h6
      cases h4
      refine Or.inr (Or.inr ⟨?_, x.1, x.2, z.1, z.2, y.1, h1, h5, h3, rfl⟩)
      unfold pRule at c0 c1 ⊢
      split at c0
      · exact absurd rfl c0
      · rename_i g
        rw [if_neg g] at c1 ⊢
        split at c1
        · rename_i g2
          rw [if_pos g2]
        · exact absurd rfl c1
theorem pRule_0 (h : pRule hd w i w' j = 0) : w < 16 ∧ w = w' ∧ i = j := by
  unfold pRule at h
  split at h
  · rename_i g; exact ⟨g.1, g.2.2⟩
  · split at h
    · cases h
    · cases h
theorem pRule_1 (h : pRule hd w i w' j = 1) : ¬ (w < 16 ∧ w' < 16 ∧ w = w' ∧ i = j) := by
  unfold pRule at h
  split at h
  · cases h
  · assumption
theorem pRule_2 (h : pRule hd w i w' j = 2) : hd = true ∧ w < 16 ∧ w' < 16 ∧ w ≠ w' ∧ i = j ∧ 0 < i := by
  unfold pRule at h
  split at h
  · cases h
  · split at h
    · assumption
    · cases h
theorem pRule_sw : pRule hd w' j w i = pRule hd w i w' j := by
  unfold pRule
  by_cases h : w < 16 ∧ w' < 16 ∧ w = w' ∧ i = j
  · rw [if_pos h, if_pos ⟨h.2.1, h.1, h.2.2.1.symm, h.2.2.2.symm⟩]
  · rw [if_neg h, if_neg (fun q => h ⟨q.2.1, q.1, q.2.2.1.symm, q.2.2.2.symm⟩)]
    by_cases g : hd = true ∧ w < 16 ∧ w' < 16 ∧ w ≠ w' ∧ i = j ∧ 0 < i
    · rw [if_pos g, if_pos ⟨g.1, g.2.2.1, g.2.1, fun e => g.2.2.2.1 e.symm, g.2.2.2.2.1.symm, by omega⟩]
    · rw [if_neg g, if_neg (fun q => g ⟨q.1, q.2.2.1, q.2.1, fun e => q.2.2.2.1 e.symm, q.2.2.2.2.1.symm, by omega⟩)]
/-- what taking a hole does -/
theorem pHole_inv {s g : Nat} {X Y : aFo} {t1 : pTb} (h : pHole tb s X Y i j = some (g, t1)) : (g < tb.length ∧ t1 = tb ∧ g = pIdx tb s X Y) ∨ (g = tb.length ∧ tb.length < 10 ∧ t1 = tb ++ [(s, X, Y, i, j)] ∧ pIdx tb s X Y = tb.length) := by
  unfold pHole at h
  split at h
  · rename_i c; cases h; exact Or.inl ⟨c, rfl, rfl⟩
  · rename_i c
    split at h
    · rename_i d
      cases h
      have := pIdx_le s X Y tb
      exact Or.inr ⟨rfl, d, rfl, by omega⟩
    · cases h
/-- behind it: the pair's entry is there, at the hole's number, whatever comes later -/
theorem pHole_fin {s g : Nat} {X Y : aFo} {t1 : pTb} (h : pHole tb s X Y i j = some (g, t1)) : (∃ e, t1 = tb ++ e) ∧ g < t1.length ∧ (tb.length ≤ 10 → t1.length ≤ 10) ∧ (∃ e, t1[g]? = some e ∧ e.1 = s ∧ e.2.1 = X ∧ e.2.2.1 = Y) ∧ pIdx t1 s X Y = g := by
  rcases pHole_inv h with ⟨h1, rfl, rfl⟩ | ⟨rfl, h2, rfl, h4⟩
  · exact ⟨⟨[], by rw [List.append_nil]⟩, h1, id, pIdx_at s X Y _ h1, rfl⟩
  · refine ⟨⟨_, rfl⟩, by rw [List.length_append]; exact Nat.lt_succ_self _, fun _ => by rw [List.length_append]; exact h2, ⟨(s, X, Y, i, j), ?_, rfl, rfl, rfl⟩, pIdx_new s X Y i j tb h4⟩
    rw [List.getElem?_append_right (Nat.le_refl _), Nat.sub_self]
    rfl
theorem jn_len : ∀ (A B : aFo) (i j : Nat) (tb : pTb) (P : aFo) (tb' : pTb), jn hd A B i j tb = some (P, tb') → qLn P = qLn A ∧ qSz P ≤ qSz A := by
  intro A
  induction A with
  | leaf _ => intro B i j tb P tb' h; rw [jn] at h; cases h; exact ⟨rfl, Nat.le_refl _⟩
  | branch w k r ihk ihr =>
    intro B i j tb P tb' h
    cases B with
    | leaf _ => rw [jn] at h; cases h
    | branch w' k' r' =>
      rcases jn_inv h with ⟨-, x, t1, y, h1, h2, rfl⟩ | ⟨-, g, t1, y, h1, h2, rfl⟩ | ⟨-, g, t1, x, t2, y, h1, h2, h3, rfl⟩
      · have a1 := ihk _ _ _ _ _ _ h1
        have a2 := ihr _ _ _ _ _ _ h2
        rw [qLn, qLn, qSz, qSz]; omega
      · have a2 := ihr _ _ _ _ _ _ h2
        rw [qLn, qLn]
        refine ⟨by omega, ?_⟩
        show 1 + 0 + qSz y ≤ 1 + qSz k + qSz r
        omega
      · have a1 := ihk _ _ _ _ _ _ h2
        have a2 := ihr _ _ _ _ _ _ h3
        rw [qLn, qLn, qSz, qSz]; omega
/-- the table only grows -/
theorem jn_grow : ∀ (A B : aFo) (i j : Nat) (tb : pTb) (P : aFo) (tb' : pTb), jn hd A B i j tb = some (P, tb') → (∃ e, tb' = tb ++ e) ∧ (tb.length ≤ 10 → tb'.length ≤ 10) := by
  intro A
  induction A with
  | leaf _ => intro B i j tb P tb' h; rw [jn] at h; cases h; exact ⟨⟨[], by rw [List.append_nil]⟩, id⟩
  | branch w k r ihk ihr =>
    intro B i j tb P tb' h
    cases B with
    | leaf _ => rw [jn] at h; cases h
    | branch w' k' r' =>
      rcases jn_inv h with ⟨-, x, t1, y, h1, h2, rfl⟩ | ⟨-, g, t1, y, h1, h2, rfl⟩ | ⟨-, g, t1, x, t2, y, h1, h2, h3, rfl⟩
      · obtain ⟨⟨e1, rfl⟩, a1⟩ := ihk _ _ _ _ _ _ h1
        obtain ⟨⟨e2, rfl⟩, a2⟩ := ihr _ _ _ _ _ _ h2
        exact ⟨⟨e1 ++ e2, by rw [List.append_assoc]⟩, fun q => a2 (a1 q)⟩
      · obtain ⟨⟨e1, rfl⟩, -, a1, -⟩ := pHole_fin h1
        obtain ⟨⟨e2, rfl⟩, a2⟩ := ihr _ _ _ _ _ _ h2
        exact ⟨⟨e1 ++ e2, by rw [List.append_assoc]⟩, fun q => a2 (a1 q)⟩
      · obtain ⟨⟨e1, rfl⟩, -, a1, -⟩ := pHole_fin h1
        obtain ⟨⟨e2, rfl⟩, a2⟩ := ihk _ _ _ _ _ _ h2
        obtain ⟨⟨e3, rfl⟩, a3⟩ := ihr _ _ _ _ _ _ h3
        exact ⟨⟨e1 ++ (e2 ++ e3), by rw [List.append_assoc, List.append_assoc]⟩, fun q => a3 (a2 (a1 q))⟩
/-- a term without holes -/
def pHF : aFo → Prop
  | .leaf _ => True
  | .branch w k r => w < 16 ∧ pHF k ∧ pHF r
/-- joined with itself, such a term is the pattern -/
theorem jn_self : ∀ (A : aFo) (i j : Nat) (tb : pTb), pHF A → jn hd A A i j tb = some (A, tb) := by
  intro A
  induction A with
  | leaf _ => intro i j tb _; rfl
  | branch w k r ihk ihr =>
    intro i j tb h
    obtain ⟨h1, h2, h3⟩ := h
    rw [jn, if_pos (by unfold pRule; rw [if_pos ⟨h1, h1, rfl, rfl⟩]), ihk _ _ _ h2]
    show (jn hd r r _ _ tb).bind _ = _
    rw [ihr _ _ _ h3]
    rfl
/-- the other way round -/
def pSw (e : pEn) : pEn := (e.1, e.2.2.1, e.2.1, e.2.2.2.2, e.2.2.2.1)
theorem pIdx_sw (s : Nat) (X Y : aFo) : ∀ tb : pTb, pIdx (tb.map pSw) s Y X = pIdx tb s X Y := by
  intro tb
  induction tb with
  | nil => rfl
  | cons e tb ih =>
    rw [List.map_cons, pIdx, pIdx, ih]
    by_cases hk : pKey e s X Y = true
    · have := pKey_iff.mp hk
      rw [if_pos hk, if_pos ((pKey_iff (e := pSw e)).mpr ⟨this.1, this.2.2, this.2.1⟩)]
    · rw [if_neg hk, if_neg (fun q => hk (by
        have := (pKey_iff (e := pSw e)).mp q
        exact pKey_iff.mpr ⟨this.1, this.2.2, this.2.1⟩))]
theorem pHole_sw (s : Nat) (X Y : aFo) : pHole (tb.map pSw) s Y X j i = (pHole tb s X Y i j).map (fun x => (x.1, x.2.map pSw)) := by
  unfold pHole
  rw [pIdx_sw, List.length_map]
  split
  · rfl
  · split
    · rw [Option.map_some, List.map_append]; rfl
    · rfl
theorem jn_sw : ∀ (A B : aFo) (i j : Nat) (tb : pTb), qLn A = qLn B → jn hd B A j i (tb.map pSw) = (jn hd A B i j tb).map (fun x => (x.1, x.2.map pSw)) := by
  intro A
  induction A with
  | leaf _ =>
    intro B i j tb h
    cases B with
    | leaf _ => rfl
    | branch w' k' r' => exact absurd h (by rw [qLn, qLn]; omega)
  | branch w k r ihk ihr =>
    intro B i j tb h
    cases B with
    | leaf _ => exact absurd h (by rw [qLn, qLn]; omega)
    | branch w' k' r' =>
      rw [qLn, qLn] at h
      rw [jn, jn, pRule_sw]
      by_cases c0 : pRule hd w (qLn k) w' (qLn k') = 0
      · obtain ⟨-, e1, e2⟩ := pRule_0 c0
        rw [if_pos c0, if_pos c0, ihk k' (i + 1) (j + 1) tb e2]
        cases jn hd k k' (i + 1) (j + 1) tb with
        | none => rfl
        | some x =>
          show (jn hd r' r (j + 1 + qSz k') (i + 1 + qSz k) (x.2.map pSw)).bind _ = ((jn hd r r' (i + 1 + qSz k) (j + 1 + qSz k') x.2).bind _).map _
          rw [ihr r' _ _ _ (by omega)]
          cases jn hd r r' (i + 1 + qSz k) (j + 1 + qSz k') x.2 with
          | none => rfl
          | some y => rw [e1]; rfl
      · rw [if_neg c0, if_neg c0]
        by_cases c1 : pRule hd w (qLn k) w' (qLn k') = 1
        · rw [if_pos c1, if_pos c1, pHole_sw]
          cases pHole tb 1 (pBr w k pNil) (pBr w' k' pNil) i j with
          | none => rfl
          | some x =>
            show (jn hd r' r (j + 1 + qSz k') (i + 1 + qSz k) (x.2.map pSw)).bind _ = ((jn hd r r' (i + 1 + qSz k) (j + 1 + qSz k') x.2).bind _).map _
            rw [ihr r' _ _ _ (by omega)]
            cases jn hd r r' (i + 1 + qSz k) (j + 1 + qSz k') x.2 with
            | none => rfl
            | some y => rfl
        · rw [if_neg c1, if_neg c1, pHole_sw]
          have c2 : pRule hd w (qLn k) w' (qLn k') = 2 := by
            unfold pRule at c0 c1 ⊢
            split at c0
            · exact absurd rfl c0
            · rename_i g
              rw [if_neg g] at c1 ⊢
              split at c1
              · rename_i g2
                rw [if_pos g2]
              · exact absurd rfl c1
          cases pHole tb 2 (pBr w pNil pNil) (pBr w' pNil pNil) i j with
          | none => rfl
          | some x =>
            show (jn hd k' k (j + 1) (i + 1) (x.2.map pSw)).bind _ = ((jn hd k k' (i + 1) (j + 1) x.2).bind _).map _
            rw [ihk k' _ _ _ (pRule_2 c2).2.2.2.2.1]
            cases jn hd k k' (i + 1) (j + 1) x.2 with
            | none => rfl
            | some z =>
              show (jn hd r' r (j + 1 + qSz k') (i + 1 + qSz k) (z.2.map pSw)).bind _ = ((jn hd r r' (i + 1 + qSz k) (j + 1 + qSz k') z.2).bind _).map _
              rw [ihr r' _ _ _ (by omega)]
              cases jn hd r r' (i + 1 + qSz k) (j + 1 + qSz k') z.2 with
              | none => rfl
              | some y => rfl
end PJ
