/-! THREE FORESTS JOINED IN TWO ORDERS: the same pattern -/
/-- the pattern that a finished table gives -/
def lb (tb : pTb) : aFo → aFo → aFo
  | .leaf _, _ => pNil
  | .branch _ _ _, .leaf _ => pNil
  | .branch w k r, .branch w' k' r' => if pRule false w (qLn k) w' (qLn k') = 0 then pBr w (lb tb k k') (lb tb r r') else pBr (16 + pIdx tb 1 (pBr w k pNil) (pBr w' k' pNil)) pNil (lb tb r r')
theorem pIdx_fin {tb : pTb} {s g : Nat} {X Y : aFo} (h : pIdx tb s X Y = g) (hl : g < tb.length) (u : pTb) : pIdx (tb ++ u) s X Y = g := by
  rw [pIdx_app _ _ _ _ _ (by omega), h]
theorem jn_lb : ∀ (A B : aFo) (i j : Nat) (tb : pTb) (P : aFo) (tb' : pTb), jn false A B i j tb = some (P, tb') → ∀ u, P = lb (tb' ++ u) A B := by
  intro A
  induction A with
  | leaf _ => intro B i j tb P tb' h u; rw [jn] at h; cases h; rfl
  | branch w k r ihk ihr =>
    intro B i j tb P tb' h u
    cases B with
    | leaf _ => rw [jn] at h; cases h
    | branch w' k' r' =>
      rw [lb]
      rcases jn_inv h with ⟨c, x, t1, y, h1, h2, rfl⟩ | ⟨c, g, t1, y, h1, h2, rfl⟩ | ⟨c, g, t1, x, t2, y, h1, h2, h3, rfl⟩
      · obtain ⟨e, rfl⟩ := (jn_grow _ _ _ _ _ _ _ h2).1
        rw [if_pos c, ← ihr _ _ _ _ _ _ h2 u, List.append_assoc, ← ihk _ _ _ _ _ _ h1 (e ++ u)]
      · obtain ⟨-, l0, -, -, l2⟩ := pHole_fin h1
        obtain ⟨e, rfl⟩ := (jn_grow _ _ _ _ _ _ _ h2).1
        rw [if_neg (by omega), ← ihr _ _ _ _ _ _ h2 u, List.append_assoc, pIdx_fin l2 l0]
      · exact absurd (pRule_2 c).1 (by decide)
theorem lb_len (tb : pTb) : ∀ A B : aFo, qLn A = qLn B → qLn (lb tb A B) = qLn A := by
  intro A
  induction A with
  | leaf _ => intro B _; rfl
  | branch w k r _ ihr =>
    intro B h
    cases B with
    | leaf _ => rw [qLn, qLn] at h; omega
    | branch w' k' r' =>
      rw [qLn, qLn] at h
      rw [lb]
      split
      · rw [qLn, qLn, ihr r' (by omega)]
      · rw [qLn, qLn, ihr r' (by omega)]
/-- two entries that came of the same three parts -/
def pR (tQ tR : pTb) (e f : pEn) : Prop := ∃ t u v : aFo, e.1 = 1 ∧ f.1 = 1 ∧ e.2.1 = lb tQ t u ∧ e.2.2.1 = v ∧ f.2.1 = lb tR v u ∧ f.2.2.1 = t ∧ cov (pSA tQ) (lb tQ t u) t ∧ cov (pSB tQ) (lb tQ t u) u ∧ cov (pSA tR) (lb tR v u) v ∧ cov (pSB tR) (lb tR v u) u
theorem pR_key {tQ tR : pTb} {e f e' f' : pEn} (h : pR tQ tR e f) (h' : pR tQ tR e' f') : pKey e e'.1 e'.2.1 e'.2.2.1 = pKey f f'.1 f'.2.1 f'.2.2.1 := by
  obtain ⟨t, u, v, a1, a2, a3, a4, a5, a6, a7, a8, a9, a10⟩ := h
  obtain ⟨t', u', v', b1, b2, b3, b4, b5, b6, b7, b8, b9, b10⟩ := h'
  refine Bool.eq_iff_iff.mpr ⟨fun q => ?_, fun q => ?_⟩
  · obtain ⟨-, q2, q3⟩ := pKey_iff.mp q
    rw [a3, b3] at q2
    rw [a4, b4] at q3
    rw [q2] at a7 a8
    have e1 := cov_fun _ _ _ a7 b7
    have e2 := cov_fun _ _ _ a8 b8
    subst e1 e2 q3
    exact pKey_iff.mpr ⟨by rw [a2, b2], by rw [a5, b5], by rw [a6, b6]⟩
  · obtain ⟨-, q2, q3⟩ := pKey_iff.mp q
    rw [a5, b5] at q2
    rw [a6, b6] at q3
    rw [q2] at a9 a10
    have e1 := cov_fun _ _ _ a9 b9
    have e2 := cov_fun _ _ _ a10 b10
    subst e1 e2 q3
    exact pKey_iff.mpr ⟨by rw [a1, b1], by rw [a3, b3], by rw [a4, b4]⟩
def pRl (tQ tR : pTb) (t5 t7 : pTb) : Prop := t5.length = t7.length ∧ ∀ (h : Nat) (e f : pEn), t5[h]? = some e → t7[h]? = some f → pR tQ tR e f
theorem pRl_idx {tQ tR : pTb} {e' f' : pEn} (h' : pR tQ tR e' f') : ∀ t5 t7 : pTb, pRl tQ tR t5 t7 → pIdx t5 e'.1 e'.2.1 e'.2.2.1 = pIdx t7 f'.1 f'.2.1 f'.2.2.1 := by
  intro t5
  induction t5 with
  | nil =>
    intro t7 h
    cases t7 with
    | nil => rfl
    | cons _ _ => have := h.1; simp at this
  | cons e t5 ih =>
    intro t7 h
    cases t7 with
    | nil => have := h.1; simp at this
    | cons f t7 =>
      have h0 := h.2 0 e f rfl rfl
      have ht : pRl tQ tR t5 t7 := ⟨by have := h.1; rw [List.length_cons, List.length_cons] at this; omega, fun x a b ha hb => h.2 (x + 1) a b (by rw [List.getElem?_cons_succ]; exact ha) (by rw [List.getElem?_cons_succ]; exact hb)⟩
      rw [pIdx, pIdx, pR_key h0 h', ih t7 ht]
theorem pRl_hole {tQ tR t5 t7 t5' t7' : pTb} {g g' s s' i j i' j' : Nat} {X Y X' Y' : aFo} (hl : pRl tQ tR t5 t7) (hr : pR tQ tR (s, X, Y, i, j) (s', X', Y', i', j')) (h5 : pHole t5 s X Y i j = some (g, t5')) (h7 : pHole t7 s' X' Y' i' j' = some (g', t7')) : g = g' ∧ pRl tQ tR t5' t7' := by
  have e : pIdx t5 s X Y = pIdx t7 s' X' Y' := pRl_idx hr t5 t7 hl
  have el := hl.1
  rcases pHole_inv h5 with ⟨a1, rfl, a3⟩ | ⟨rfl, a2, rfl, a4⟩
  · rcases pHole_inv h7 with ⟨b1, rfl, b3⟩ | ⟨rfl, b2, rfl, b4⟩
    · exact ⟨by omega, hl⟩
    · omega
  · rcases pHole_inv h7 with ⟨b1, rfl, b3⟩ | ⟨rfl, b2, rfl, b4⟩
    · omega
    · refine ⟨el, by rw [List.length_append, List.length_append]; show _ + 1 = _ + 1; rw [el], fun x a b ha hb => ?_⟩
      rcases Nat.lt_trichotomy x t5.length with q | q | q
      · rw [List.getElem?_append_left q] at ha
        rw [List.getElem?_append_left (by omega)] at hb
        exact hl.2 x a b ha hb
      · rw [List.getElem?_append_right (by omega), show x - t5.length = 0 by omega] at ha
        rw [List.getElem?_append_right (by omega), show x - t7.length = 0 by omega] at hb
        cases ha
        cases hb
        exact hr
      · rw [List.getElem?_eq_none (by rw [List.length_append]; show t5.length + 1 ≤ x; omega)] at ha
        cases ha
/-- the rule for a pattern's node that stands for two nodes -/
theorem lb_node (tb : pTb) {w w' : Nat} {k k' r r' : aFo} (hk : pRule false w (qLn k) w' (qLn k') = 0 → qLn (lb tb k k') = qLn k) : ∃ q Kq, lb tb (pBr w k r) (pBr w' k' r') = pBr q Kq (lb tb r r') ∧ lb tb (pBr w k pNil) (pBr w' k' pNil) = pBr q Kq pNil ∧ ((pRule false w (qLn k) w' (qLn k') = 0 ∧ q = w ∧ Kq = lb tb k k' ∧ qLn Kq = qLn k) ∨ (pRule false w (qLn k) w' (qLn k') ≠ 0 ∧ 16 ≤ q)) := by
  rw [lb, lb]
  by_cases c : pRule false w (qLn k) w' (qLn k') = 0
  · rw [if_pos c, if_pos c]
    exact ⟨w, lb tb k k', rfl, rfl, Or.inl ⟨c, rfl, rfl, hk c⟩⟩
  · rw [if_neg c, if_neg c]
    exact ⟨_, pNil, rfl, rfl, Or.inr ⟨c, by omega⟩⟩
theorem pRule_f {w n w' n' : Nat} : pRule false w n w' n' = if w < 16 ∧ w = w' ∧ n = n' then 0 else 1 := by
  unfold pRule
  by_cases h : w < 16 ∧ w = w' ∧ n = n'
  · rw [if_pos h, if_pos ⟨h.1, by omega, h.2⟩]
  · rw [if_neg h, if_neg (fun q => h ⟨q.1, q.2.2⟩), if_neg (fun q => absurd q.1 (by decide))]
theorem pRule_f0 {w n w' n' : Nat} : pRule false w n w' n' = 0 ↔ w < 16 ∧ w = w' ∧ n = n' := by
  rw [pRule_f]
  by_cases h : w < 16 ∧ w = w' ∧ n = n'
  · rw [if_pos h]; exact ⟨fun _ => h, fun _ => rfl⟩
  · rw [if_neg h]; exact ⟨fun q => (by cases q), fun q => absurd q h⟩
theorem cov_part {s : Nat → aFo} {q v : Nat} {K R k r : aFo} (h : cov s (pBr q K R) (pBr v k r)) : cov s (pBr q K pNil) (pBr v k pNil) := ⟨h.1, True.intro⟩
/-- the two joins run side by side -/
theorem tri {tQ tR : pTb} : ∀ (T U V : aFo) (i j i' j' : Nat) (t5 t7 : pTb) (P P' : aFo) (t5' t7' : pTb), qLn T = qLn U → qLn T = qLn V → jn false (lb tQ T U) V i j t5 = some (P, t5') → jn false (lb tR V U) T i' j' t7 = some (P', t7') → cov (pSA tQ) (lb tQ T U) T → cov (pSB tQ) (lb tQ T U) U → cov (pSA tR) (lb tR V U) V → cov (pSB tR) (lb tR V U) U → pRl tQ tR t5 t7 → P = P' ∧ pRl tQ tR t5' t7' := by
  intro T
  induction T with
  | leaf _ =>
    intro U V i j i' j' t5 t7 P P' t5' t7' hU hV h5 h7 _ _ _ _ hl
    cases V with
    | branch _ _ _ => rw [qLn, qLn] at hV; omega
    | leaf _ =>
      rw [lb, jn] at h5
      rw [lb, jn] at h7
      cases h5
      cases h7
      exact ⟨rfl, hl⟩
  | branch w k r ihk ihr =>
    intro U V i j i' j' t5 t7 P P' t5' t7' hU hV h5 h7 cA cB dA dB hl
    cases U with
    | leaf _ => rw [qLn, qLn] at hU; omega
    | branch w' k' r' =>
      cases V with
      | leaf _ => rw [qLn, qLn] at hV; omega
      | branch v l m =>
        rw [qLn, qLn] at hU hV
        obtain ⟨q, Kq, e1, e2, e3⟩ := lb_node tQ (r := r) (r' := r') (fun c => lb_len tQ k k' (pRule_f0.mp c).2.2)
        obtain ⟨p, Kp, f1, f2, f3⟩ := lb_node tR (w := v) (w' := w') (k := l) (k' := k') (r := m) (r' := r') (fun c => lb_len tR l k' (pRule_f0.mp c).2.2)
        rw [e1] at h5 cA cB
        rw [f1] at h7 dA dB
        by_cases al : w < 16 ∧ w = w' ∧ w = v ∧ qLn k = qLn k' ∧ qLn k = qLn l
        · obtain ⟨z1, z2, z3, z4, z5⟩ := al
          subst z2 z3
          rcases e3 with ⟨-, rfl, rfl, e6⟩ | ⟨ne, -⟩
          · rcases f3 with ⟨-, rfl, rfl, f6⟩ | ⟨ne, -⟩
            · rcases jn_inv h5 with ⟨-, x, t1, y, a1, a2, rfl⟩ | ⟨c, -⟩ | ⟨c, -⟩
              · rcases jn_inv h7 with ⟨-, x', t1', y', b1, b2, rfl⟩ | ⟨c, -⟩ | ⟨c, -⟩
                · obtain ⟨cA1, cA2⟩ := cA
                  obtain ⟨cB1, cB2⟩ := cB
                  obtain ⟨dA1, dA2⟩ := dA
                  obtain ⟨dB1, dB2⟩ := dB
                  rw [if_pos z1] at cA1 cB1 dA1 dB1
                  obtain ⟨g1, g2⟩ := ihk k' l _ _ _ _ _ _ _ _ _ _ z4 z5 a1 b1 cA1.2 cB1.2 dA1.2 dB1.2 hl
                  obtain ⟨g3, g4⟩ := ihr r' m _ _ _ _ _ _ _ _ _ _ (by omega) (by omega) a2 b2 cA2 cB2 dA2 dB2 g2
                  exact ⟨by rw [g1, g3], g4⟩
                · rw [pRule_f, if_pos ⟨z1, rfl, by omega⟩] at c; cases c
                · exact absurd (pRule_2 c).1 (by decide)
              · rw [pRule_f, if_pos ⟨z1, rfl, by omega⟩] at c; cases c
              · exact absurd (pRule_2 c).1 (by decide)
            · exact absurd (pRule_f0.mpr ⟨z1, rfl, by omega⟩) ne
          · exact absurd (pRule_f0.mpr ⟨z1, rfl, by omega⟩) ne
        · have n5 : pRule false q (qLn Kq) v (qLn l) ≠ 0 := fun c => by
            obtain ⟨y1, y2, y3⟩ := pRule_f0.mp c
            rcases e3 with ⟨e4, e5, -, e6⟩ | ⟨-, e4⟩
            · obtain ⟨x1, x2, x3⟩ := pRule_f0.mp e4
              exact al ⟨x1, x2, by omega, x3, by omega⟩
            · omega
          have n7 : pRule false p (qLn Kp) w (qLn k) ≠ 0 := fun c => by
            obtain ⟨y1, y2, y3⟩ := pRule_f0.mp c
            rcases f3 with ⟨f4, f5, -, f6⟩ | ⟨-, f4⟩
            · obtain ⟨x1, x2, x3⟩ := pRule_f0.mp f4
              exact al ⟨by omega, by omega, by omega, by omega, by omega⟩
            · omega
          rcases jn_inv h5 with ⟨c, -⟩ | ⟨-, g, t1, y, a1, a2, rfl⟩ | ⟨c, -⟩
          · exact absurd c n5
          · rcases jn_inv h7 with ⟨c, -⟩ | ⟨-, g', t1', y', b1, b2, rfl⟩ | ⟨c, -⟩
            · exact absurd c n7
            · have hr : ∀ i j i' j', pR tQ tR (1, pBr q Kq pNil, pBr v l pNil, i, j) (1, pBr p Kp pNil, pBr w k pNil, i', j') := fun i j i' j' => ⟨pBr w k pNil, pBr w' k' pNil, pBr v l pNil, rfl, rfl, e2.symm, rfl, f2.symm, rfl, by rw [e2]; exact cov_part cA, by rw [e2]; exact cov_part cB, by rw [f2]; exact cov_part dA, by rw [f2]; exact cov_part dB⟩
              obtain ⟨g1, g2⟩ := pRl_hole hl (hr _ _ _ _) a1 b1
              obtain ⟨g3, g4⟩ := ihr r' m _ _ _ _ _ _ _ _ _ _ (by omega) (by omega) a2 b2 cA.2 cB.2 dA.2 dB.2 g2
              exact ⟨by rw [g1, g3], g4⟩
            · exact absurd (pRule_2 c).1 (by decide)
          · exact absurd (pRule_2 c).1 (by decide)
/-- three forests in two orders -/
theorem three {T U V Q R P P' : aFo} {tQ tR t5 t7 : pTb} (hU : qLn T = qLn U) (hV : qLn T = qLn V) (h1 : jn false T U 0 0 [] = some (Q, tQ)) (h2 : jn false V U 0 0 [] = some (R, tR)) (h5 : jn false Q V 0 0 [] = some (P, t5)) (h7 : jn false R T 0 0 [] = some (P', t7)) : P = P' := by
  have e1 := jn_lb _ _ _ _ _ _ _ h1 []
  have e2 := jn_lb _ _ _ _ _ _ _ h2 []
  rw [List.append_nil] at e1 e2
  have c1 := jn_covA h1 (Nat.zero_le _)
  have c2 := jn_covB h1 hU (Nat.zero_le _)
  have c3 := jn_covA h2 (Nat.zero_le _)
  have c4 := jn_covB h2 (hV.symm.trans hU) (Nat.zero_le _)
  rw [e1] at h5 c1 c2
  rw [e2] at h7 c3 c4
  exact (tri T U V _ _ _ _ _ _ _ _ _ _ hU hV h5 h7 c1 c2 c3 c4 ⟨rfl, fun h e f he _ => by simp at he⟩).1
