/-! THE GHOST JOINS: parts, the table of holes, one node -/
theorem tSame_eq {T T' : Tm} : ∀ (X X' : aFo) (i i' d d' : Nat), aTf T X i d → aTf T' X' i' d' → qLn X = qLn X' → tSame T i T' i' (qSz X) → X = X' := by
  intro X
  induction X with
  | leaf _ =>
    intro X' i i' d d' _ _ h _
    exact (q_len_0 h.symm).symm
  | branch w k r ihk ihr =>
    intro X' i i' d d' h h' hl hs
    cases X' with
    | leaf _ => rw [qLn, qLn] at hl; omega
    | branch w' k' r' =>
      rw [qLn, qLn] at hl
      rw [qSz] at hs
      obtain ⟨⟨a1, a2, a3, a4, -⟩, hk, hr⟩ := h
      obtain ⟨⟨b1, b2, b3, b4, -⟩, hk', hr'⟩ := h'
      have s0 := hs 0 (by omega)
      rw [Nat.add_zero, Nat.add_zero, a1, a2, a3, b1, b2, b3] at s0
      obtain ⟨s1, s2, s3⟩ := s0
      have ew : w = w' := by omega
      have ek : k = k' := ihk k' _ _ _ _ hk hk' s3 fun x hx => by
        have := hs (x + 1) (by omega)
        rw [show i + (x + 1) = i + 1 + x by omega, show i' + (x + 1) = i' + 1 + x by omega] at this
        exact this
      subst ek
      have er : r = r' := ihr r' _ _ _ _ hr hr' (by omega) fun x hx => by
        have := hs (x + 1 + qSz k) (by omega)
        rw [show i + (x + 1 + qSz k) = i + 1 + qSz k + x by omega, show i' + (x + 1 + qSz k) = i' + 1 + qSz k + x by omega] at this
        exact this
      rw [ew, er]
theorem tSame_of {T T' : Tm} {X : aFo} {i i' d d' : Nat} (h : aTf T X i d) (h' : aTf T' X i' d') : tSame T i T' i' (qSz X) := fun x hx => by
  obtain ⟨a1, a2, a3, -⟩ := aTf_at X i d h x hx
  obtain ⟨b1, b2, b3, -⟩ := aTf_at X i' d' h' x hx
  obtain ⟨c1, c2, c3⟩ := q_at_nd X d x
  obtain ⟨e1, e2, e3⟩ := q_at_nd X d' x
  exact ⟨by rw [a1, b1, c1, e1], by rw [a2, b2, c2, e2], by rw [a3, b3, c3, e3]⟩
/-- X is the part of T at i that a hole of sort s may stand for -/
def gPt (T : Tm) (s : Nat) (X : aFo) (i : Nat) : Prop := (s = 1 ∧ qLn X = 1 ∧ i + qSz X ≤ tn T ∧ ∃ d, aTf T X i d) ∨ (s = 2 ∧ i < tn T ∧ ts T i = 0 ∧ X = pBr (tg T i) pNil pNil)
theorem gPt_le {T : Tm} {s i : Nat} {X : aFo} (h : gPt T s X i) : i + qSz X ≤ tn T := by
  rcases h with ⟨-, -, h, -⟩ | ⟨-, h, -, rfl⟩
  · exact h
  · show i + (1 + 0 + 0) ≤ _; omega
/-- an entry of the table -/
def gEnt (J : zI) (a b : Nat) (T U : Tm) (h : Nat) (e : pEn) : Prop := (J 100 h = nI e.1 ∧ J 101 h = nI a ∧ J 102 h = nI e.2.2.2.1 ∧ J 103 h = nI (qSz e.2.1) ∧ J 104 h = nI b ∧ J 105 h = nI e.2.2.2.2 ∧ J 106 h = nI (qSz e.2.2.1)) ∧ gPt T e.1 e.2.1 e.2.2.2.1 ∧ gPt U e.1 e.2.2.1 e.2.2.2.2
def gTb (J : zI) (a b : Nat) (T U : Tm) (tb : pTb) : Prop := tb.length ≤ 10 ∧ J 89 16 = nI tb.length ∧ ∀ (h : Nat) (e : pEn), tb[h]? = some e → gEnt J a b T U h e
section GTB
variable {F : Nat} {J : zI} {RM : zR} {a b s i j : Nat} {T U : Tm} {X Y : aFo} {tb : pTb}
theorem gEq {T : Tm} {s i i' : Nat} {X X' : aFo} (h : gPt T s X i) (h' : gPt T s X' i') (h1 : s = 1) : (qSz X = qSz X' ∧ tSame T i T i' (qSz X')) ↔ X = X' := by
  rcases h with ⟨-, a1, a2, d, a3⟩ | ⟨e, -⟩
  · rcases h' with ⟨-, b1, b2, d', b3⟩ | ⟨e, -⟩
    · exact ⟨fun q => tSame_eq X X' _ _ _ _ a3 b3 (by rw [a1, b1]) (by rw [q.1]; exact q.2), fun q => by subst q; exact ⟨rfl, tSame_of a3 b3⟩⟩
    · omega
  · omega
theorem gPair (hF : 200 ≤ F) (hRM : zRM RM) (ha : a + 97 ≤ 5751) (hb : b + 97 ≤ 5751) (hT : tWF T) (hU : tWF U) (hTm : zTm (J 90) a T) (hUm : zTm (J 90) b U) {h : Nat} (hh : h < 10) {e : pEn} (hE : gEnt J a b T U h e) (hX : gPt T s X i) (hY : gPt U s Y j) : f_X7_isPair F zKm J RM 89 (nI h) (nI s) (nI a) (nI i) (nI (qSz X)) (nI b) (nI j) (nI (qSz Y)) = some (if pKey e s X Y = true then 1 else 0) := by
  obtain ⟨s', X', Y', i', j'⟩ := e
  obtain ⟨⟨g1, g2, g3, g4, g5, g6, g7⟩, hX', hY'⟩ := hE
  simp only at g1 g2 g3 g4 g5 g6 g7 hX' hY'
  have q0 : RM 89 0 = some 90 := hRM 89 0 (by decide) (by decide) (by decide)
  have q17 : RM 89 17 = some 100 := hRM 89 17 (by decide) (by decide) (by decide)
  have q18 : RM 89 18 = some 101 := hRM 89 18 (by decide) (by decide) (by decide)
  have q19 : RM 89 19 = some 102 := hRM 89 19 (by decide) (by decide) (by decide)
  have q20 : RM 89 20 = some 103 := hRM 89 20 (by decide) (by decide) (by decide)
  have q21 : RM 89 21 = some 104 := hRM 89 21 (by decide) (by decide) (by decide)
  have q22 : RM 89 22 = some 105 := hRM 89 22 (by decide) (by decide) (by decide)
  have q23 : RM 89 23 = some 106 := hRM 89 23 (by decide) (by decide) (by decide)
  have z : ∀ x : Nat, 100 ≤ x → x ≤ 106 → zKm x = (1, 10) := fun x h1 h2 => by
    have : x = 100 ∨ x = 101 ∨ x = 102 ∨ x = 103 ∨ x = 104 ∨ x = 105 ∨ x = 106 := by omega
    rcases this with rfl | rfl | rfl | rfl | rfl | rfl | rfl <;> rfl
  have zr : ∀ x : Nat, 100 ≤ x → x ≤ 106 → zrd zKm J x (nI h) = some (J x h) := fun x h1 h2 => zrd_s (by rw [z x h1 h2]; exact hh) (by rw [z x h1 h2]; decide)
  have zd : ∀ x : Nat, 100 ≤ x → x ≤ 106 → zdr zKm (some x) 1 = some x := fun x h1 h2 => zdr_s (by rw [z x h1 h2])
  have l1 := gPt_le hX
  have l2 := gPt_le hY
  have l3 := gPt_le hX'
  have l4 := gPt_le hY'
  have tn1 := hT.1.2.1
  have tn2 := hU.1.2.1
  have eJ : f_X7_isPair F zKm J RM 89 (nI h) (nI s) (nI a) (nI i) (nI (qSz X)) (nI b) (nI j) (nI (qSz Y)) = if nI s' = nI s then (if nI (qSz X') = nI (qSz X) then (if nI (qSz Y') = nI (qSz Y) then (if nI s = (2 : Int32) then (zbd (f_X7_number F zKm J RM 89 (nI a) (nI i')) fun v56 => zbd (f_X7_number F zKm J RM 89 (nI a) (nI i)) fun v58 => if v56 = v58 then (zbd (f_X7_number F zKm J RM 89 (nI b) (nI j')) fun v71 => zbd (f_X7_number F zKm J RM 89 (nI b) (nI j)) fun v73 => if v71 = v73 then some (1 : Int32) else some (0 : Int32)) else some (0 : Int32)) else (zbd (f_X7_isSame F zKm J RM 89 (nI a) (nI i') (nI a) (nI i) (nI (qSz X))) fun v30 => if v30 = (0 : Int32) then some (0 : Int32) else (zbd (f_X7_isSame F zKm J RM 89 (nI b) (nI j') (nI b) (nI j) (nI (qSz Y))) fun v43 => if v43 = (0 : Int32) then some (0 : Int32) else some (1 : Int32)))) else some (0 : Int32)) else some (0 : Int32)) else some (0 : Int32) := by
    unfold f_X7_isPair
    simp only [q17, q18, q19, q20, q21, q22, q23, zbd_s, zd 100 (by decide) (by decide), zd 101 (by decide) (by decide), zd 102 (by decide) (by decide), zd 103 (by decide) (by decide), zd 104 (by decide) (by decide), zd 105 (by decide) (by decide), zd 106 (by decide) (by decide), zr 100 (by decide) (by decide), zr 101 (by decide) (by decide), zr 102 (by decide) (by decide), zr 103 (by decide) (by decide), zr 104 (by decide) (by decide), zr 105 (by decide) (by decide), zr 106 (by decide) (by decide), g1, g2, g3, g4, g5, g6, g7]
  have s3 : s < 3 := by rcases hX with ⟨e, -⟩ | ⟨e, -⟩ <;> omega
  have s3' : s' < 3 := by rcases hX' with ⟨e, -⟩ | ⟨e, -⟩ <;> omega
  have no : ¬ (s' = s ∧ X' = X ∧ Y' = Y) → some (0 : Int32) = some (if pKey (s', X', Y', i', j') s X Y = true then 1 else 0) := fun c => by rw [if_neg (fun q => c (pKey_iff.mp q))]
  have yes : (s' = s ∧ X' = X ∧ Y' = Y) → some (1 : Int32) = some (if pKey (s', X', Y', i', j') s X Y = true then 1 else 0) := fun c => by rw [if_pos (pKey_iff.mpr c)]
  rw [eJ]
  by_cases hs : s' = s
  · subst hs
    rw [if_pos rfl]
    by_cases hs2 : s' = 2
    · rcases hX with ⟨e, -⟩ | ⟨-, x1, x2, x3⟩
      · omega
      rcases hY with ⟨e, -⟩ | ⟨-, y1, y2, y3⟩
      · omega
      rcases hX' with ⟨e, -⟩ | ⟨-, x1', x2', x3'⟩
      · omega
      rcases hY' with ⟨e, -⟩ | ⟨-, y1', y2', y3'⟩
      · omega
      have b1 := (hT.2.1 i x1).2.2.1 x2
      have b2 := (hU.2.1 j y1).2.2.1 y2
      have b3 := (hT.2.1 i' x1').2.2.1 x2'
      have b4 := (hU.2.1 j' y1').2.2.1 y2'
      have eX : qSz X' = qSz X := by rw [x3, x3']; rfl
      have eY : qSz Y' = qSz Y := by rw [y3, y3']; rfl
      rw [if_pos (by rw [eX]), if_pos (by rw [eY]), if_pos (by rw [hs2]; rfl), X7_number q0 ha hTm tn1 x1', zbd_s, X7_number q0 ha hTm tn1 x1, zbd_s, X7_number q0 hb hUm tn2 y1', zbd_s, X7_number q0 hb hUm tn2 y1, zbd_s]
      by_cases z1 : tg T i' = tg T i
      · rw [if_pos (by rw [z1])]
        by_cases z2 : tg U j' = tg U j
        · rw [if_pos (by rw [z2])]
          exact yes ⟨rfl, by rw [x3, x3', z1], by rw [y3, y3', z2]⟩
        · rw [if_neg (fun e => z2 (nI_inj (by omega) (by omega) e))]
          exact no fun c => z2 (by
            have := c.2.2
            rw [y3, y3'] at this
            injection this)
      · rw [if_neg (fun e => z1 (nI_inj (by omega) (by omega) e))]
        exact no fun c => z1 (by
          have := c.2.1
          rw [x3, x3'] at this
          injection this)
    · have hs1 : s' = 1 := by rcases hX with ⟨e, -⟩ | ⟨e, -⟩ <;> omega
      have hn2 : ¬ nI s' = (2 : Int32) := fun e => hs2 ((ni2 (by omega)).mp e)
      by_cases eX : qSz X' = qSz X
      · rw [if_pos (by rw [eX])]
        by_cases eY : qSz Y' = qSz Y
        · rw [if_pos (by rw [eY]), if_neg hn2]
          obtain ⟨r3, w5, w6⟩ := X7_isSame (F := F) q0 hF ha ha hT hT hTm hTm (by rw [← eX]; exact l3) l1
          obtain ⟨r4, w7, w8⟩ := X7_isSame (F := F) q0 hF hb hb hU hU hUm hUm (by rw [← eY]; exact l4) l2
          rw [w5, zbd_s, w7, zbd_s]
          have k1 := gEq hX' hX hs1
          have k2 := gEq hY' hY hs1
          rcases w6 with ⟨v1, v2⟩ | ⟨v1, v2⟩
          · rw [v1, if_neg (show ¬ ((1 : Int32) = 0) by decide)]
            rcases w8 with ⟨v3, v4⟩ | ⟨v3, v4⟩
            · rw [v3, if_neg (show ¬ ((1 : Int32) = 0) by decide)]
              exact yes ⟨rfl, k1.mp ⟨eX, v2⟩, k2.mp ⟨eY, v4⟩⟩
            · rw [v3, if_pos rfl]
              exact no fun c => v4 (k2.mpr c.2.2).2
          · rw [v1, if_pos rfl]
            exact no fun c => v2 (k1.mpr c.2.1).2
        · rw [if_neg (fun x => eY (nI_inj (by omega) (by omega) x))]
          exact no fun c => eY (by rw [c.2.2])
      · rw [if_neg (fun x => eX (nI_inj (by omega) (by omega) x))]
        exact no fun c => eX (by rw [c.2.1])
  · rw [if_neg (fun x => hs (nI_inj (by omega) (by omega) x))]
    exact no fun c => hs c.1
theorem pIdx_eq {x : Nat} {e : pEn} (h : ∀ y, y < x → ∀ f, tb[y]? = some f → ¬ pKey f s X Y = true) (he : tb[x]? = some e) (hk : pKey e s X Y = true) : pIdx tb s X Y = x := by
  have k := pKey_iff.mp hk
  have h1 := pIdx_first s X Y tb x e he k.1 k.2.1 k.2.2
  have hx : x < tb.length := by
    rcases Nat.lt_or_ge x tb.length with q | q
    · exact q
    · rw [List.getElem?_eq_none q] at he; cases he
  rcases Nat.lt_or_ge (pIdx tb s X Y) x with q | q
  · obtain ⟨f, f1, f2, f3, f4⟩ := pIdx_at s X Y tb (by omega)
    exact absurd (pKey_iff.mpr ⟨f2, f3, f4⟩) (h _ q f f1)
  · omega
theorem pIdx_len (h : ∀ y, y < tb.length → ∀ f, tb[y]? = some f → ¬ pKey f s X Y = true) : pIdx tb s X Y = tb.length := by
  have h1 := pIdx_le s X Y tb
  rcases Nat.lt_or_ge (pIdx tb s X Y) tb.length with q | q
  · obtain ⟨f, f1, f2, f3, f4⟩ := pIdx_at s X Y tb q
    exact absurd (pKey_iff.mpr ⟨f2, f3, f4⟩) (h _ q f f1)
  · omega
/-- the hole for a pair: what the loop finds -/
theorem gHole3 (hF : 200 ≤ F) (hRM : zRM RM) (ha : a + 97 ≤ 5751) (hb : b + 97 ≤ 5751) (hT : tWF T) (hU : tWF U) (hTm : zTm (J 90) a T) (hUm : zTm (J 90) b U) (hTb : gTb J a b T U tb) (hX : gPt T s X i) (hY : gPt U s Y j) : ∀ (d x f : Nat), x + d = tb.length → d < f → (∀ y, y < x → ∀ f, tb[y]? = some f → ¬ pKey f s X Y = true) →
    f_X7_holeFor_3 F zKm RM 89 f J (nI s) (nI a) (nI i) (nI (qSz X)) (nI b) (nI j) (nI (qSz Y)) (nI x) = if pIdx tb s X Y < tb.length then some (nI (pIdx tb s X Y), J) else if tb.length < 10 then some (nI tb.length, zNewJ J tb.length s a i (qSz X) b j (qSz Y)) else some (-9, J) := by
  obtain ⟨hl, h16, hE⟩ := hTb
  intro d
  induction d with
  | zero =>
    intro x f hx hf hno
    obtain ⟨f, rfl⟩ : ∃ g, f = g + 1 := ⟨f - 1, by omega⟩
    obtain rfl : x = tb.length := by omega
    rw [pIdx_len hno, if_neg (Nat.lt_irrefl _)]
    by_cases h10 : tb.length < 10
    · rw [if_pos h10]
      have q17 : RM 89 17 = some 100 := hRM 89 17 (by decide) (by decide) (by decide)
      have q18 : RM 89 18 = some 101 := hRM 89 18 (by decide) (by decide) (by decide)
      have q19 : RM 89 19 = some 102 := hRM 89 19 (by decide) (by decide) (by decide)
      have q20 : RM 89 20 = some 103 := hRM 89 20 (by decide) (by decide) (by decide)
      have q21 : RM 89 21 = some 104 := hRM 89 21 (by decide) (by decide) (by decide)
      have q22 : RM 89 22 = some 105 := hRM 89 22 (by decide) (by decide) (by decide)
      have q23 : RM 89 23 = some 106 := hRM 89 23 (by decide) (by decide) (by decide)
      generalize tb.length = x at h10 h16
      have zw : ∀ (y : Nat) (v : Int32) (J : zI), 100 ≤ y → y ≤ 106 → zwr zKm J y (nI x) v = some (zup J y x v) := fun y v J h1 h2 => by
        have : y = 100 ∨ y = 101 ∨ y = 102 ∨ y = 103 ∨ y = 104 ∨ y = 105 ∨ y = 106 := by omega
        rcases this with rfl | rfl | rfl | rfl | rfl | rfl | rfl <;> exact zwr_s h10 (by decide)
      have zd : ∀ y : Nat, 100 ≤ y → y ≤ 106 → zdr zKm (some y) 1 = some y := fun y h1 h2 => by
        have : y = 100 ∨ y = 101 ∨ y = 102 ∨ y = 103 ∨ y = 104 ∨ y = 105 ∨ y = 106 := by omega
        rcases this with rfl | rfl | rfl | rfl | rfl | rfl | rfl <;> rfl
      have zn : ∀ (J : zI) (y : Nat) (v : Int32), 100 ≤ y → zup J y x v 89 16 = J 89 16 := fun J y v h1 => zup_nb _ _ _ (by omega) _
      show g_X7_holeFor_3 F zKm RM 89 _ J (nI s) (nI a) (nI i) (nI (qSz X)) (nI b) (nI j) (nI (qSz Y)) (nI x) = _
      unfold g_X7_holeFor_3
      rw [h16, if_pos (nI_le (Nat.le_refl _) (by omega)), if_neg (show ¬ (nI x = (10 : Int32)) from fun q => by have := nI_inj (b := 10) (by omega) (by omega) q; omega)]
      simp only [q17, q18, q19, q20, q21, q22, q23, zbd_s, zd 100 (by decide) (by decide), zd 101 (by decide) (by decide), zd 102 (by decide) (by decide), zd 103 (by decide) (by decide), zd 104 (by decide) (by decide), zd 105 (by decide) (by decide), zd 106 (by decide) (by decide), zw 100 _ _ (by decide) (by decide), zw 101 _ _ (by decide) (by decide), zw 102 _ _ (by decide) (by decide), zw 103 _ _ (by decide) (by decide), zw 104 _ _ (by decide) (by decide), zw 105 _ _ (by decide) (by decide), zw 106 _ _ (by decide) (by decide), zn _ 100 _ (by decide), zn _ 101 _ (by decide), zn _ 102 _ (by decide), zn _ 103 _ (by decide), zn _ 104 _ (by decide), zn _ 105 _ (by decide), zn _ 106 _ (by decide), h16, zup_self, nI_1, nI_pred]
      rfl
    · rw [if_neg h10]
      have e10 : tb.length = 10 := by omega
      rw [e10] at h16 ⊢
      show g_X7_holeFor_3 F zKm RM 89 _ J (nI s) (nI a) (nI i) (nI (qSz X)) (nI b) (nI j) (nI (qSz Y)) (nI 10) = _
      unfold g_X7_holeFor_3
      rw [h16, if_pos (by decide), if_pos (show nI 10 = (10 : Int32) from rfl)]
  | succ d ih =>
    intro x f hx hf hno
    obtain ⟨f, rfl⟩ : ∃ g, f = g + 1 := ⟨f - 1, by omega⟩
    have hxl : x < tb.length := by omega
    have he : tb[x]? = some tb[x] := List.getElem?_eq_getElem hxl
    have hp := gPair (F := F) hF hRM ha hb hT hU hTm hUm (show x < 10 by omega) (hE x _ he) hX hY
    have eJ : f_X7_holeFor_3 F zKm RM 89 (f + 1) J (nI s) (nI a) (nI i) (nI (qSz X)) (nI b) (nI j) (nI (qSz Y)) (nI x) = if (if pKey tb[x] s X Y = true then (1 : Int32) else 0) = (0 : Int32) then f_X7_holeFor_3 F zKm RM 89 f J (nI s) (nI a) (nI i) (nI (qSz X)) (nI b) (nI j) (nI (qSz Y)) (nI (x + 1)) else some (nI x, J) := by
      show g_X7_holeFor_3 F zKm RM 89 _ J (nI s) (nI a) (nI i) (nI (qSz X)) (nI b) (nI j) (nI (qSz Y)) (nI x) = _
      unfold g_X7_holeFor_3
      rw [h16, if_neg (nI_ge (by omega) (by omega)), hp, zbd_s, nI_1]
    rw [eJ]
    by_cases hk : pKey tb[x] s X Y = true
    · have e := pIdx_eq hno he hk
      rw [if_pos hk, if_neg (by decide), e, if_pos hxl]
    · rw [if_neg hk, if_pos rfl]
      refine ih (x + 1) f (by omega) (by omega) fun y hy g hg => ?_
      by_cases hyx : y = x
      · subst hyx
        rw [he] at hg
        cases hg
        exact hk
      · exact hno y (by omega) g hg
theorem zNewJ_fr (to H s a i c b j e : Nat) : zJfJ to J (zNewJ J H s a i c b j e) := (new_fr (I := fun _ _ => 0) (R := fun _ _ => none) (t := 0) (u := 0) (p := 92) (Nat.le_refl _) H).2
/-- the table with one entry more -/
theorem gTb_new (hTb : gTb J a b T U tb) (h10 : tb.length < 10) (hX : gPt T s X i) (hY : gPt U s Y j) : gTb (zNewJ J tb.length s a i (qSz X) b j (qSz Y)) a b T U (tb ++ [(s, X, Y, i, j)]) := by
  obtain ⟨hl, h16, hE⟩ := hTb
  refine ⟨by rw [List.length_append]; show tb.length + 1 ≤ 10; omega, by rw [List.length_append]; unfold zNewJ; rw [zup_self]; rfl, fun h e he => ?_⟩
  rcases Nat.lt_trichotomy h tb.length with q | q | q
  · rw [List.getElem?_append_left q] at he
    obtain ⟨⟨g1, g2, g3, g4, g5, g6, g7⟩, g8, g9⟩ := hE h e he
    have hx : ∀ (f : zI) (x y : Nat) (v : Int32), zup f x tb.length v y h = f y h := fun f x y v => by unfold zup; rw [if_neg (fun q => by omega)]
    have hn : ∀ y, 100 ≤ y → zNewJ J tb.length s a i (qSz X) b j (qSz Y) y h = J y h := fun y hy => by
      unfold zNewJ
      rw [zup_nb _ _ _ (by omega), hx, hx, hx, hx, hx, hx, hx]
    exact ⟨⟨by rw [hn _ (by decide)]; exact g1, by rw [hn _ (by decide)]; exact g2, by rw [hn _ (by decide)]; exact g3, by rw [hn _ (by decide)]; exact g4, by rw [hn _ (by decide)]; exact g5, by rw [hn _ (by decide)]; exact g6, by rw [hn _ (by decide)]; exact g7⟩, g8, g9⟩
  · subst q
    rw [List.getElem?_append_right (Nat.le_refl _), Nat.sub_self] at he
    cases he
    refine ⟨?_, hX, hY⟩
    simp [zNewJ, zup]
  · rw [List.getElem?_eq_none (by rw [List.length_append]; show tb.length + 1 ≤ h; omega)] at he
    cases he
/-- the hole for a pair -/
theorem gHole (hF : 200 ≤ F) (hRM : zRM RM) (ha : a + 97 ≤ 5751) (hb : b + 97 ≤ 5751) (hT : tWF T) (hU : tWF U) (hTm : zTm (J 90) a T) (hUm : zTm (J 90) b U) (hTb : gTb J a b T U tb) (hX : gPt T s X i) (hY : gPt U s Y j) (to : Nat) :
    (pHole tb s X Y i j = none ∧ f_X7_holeFor F zKm J RM 89 (nI s) (nI a) (nI i) (nI (qSz X)) (nI b) (nI j) (nI (qSz Y)) = some (-9, J)) ∨ ∃ g tb' J', pHole tb s X Y i j = some (g, tb') ∧ f_X7_holeFor F zKm J RM 89 (nI s) (nI a) (nI i) (nI (qSz X)) (nI b) (nI j) (nI (qSz Y)) = some (nI g, J') ∧ gTb J' a b T U tb' ∧ zJfJ to J J' ∧ (∀ c, 106 < c → J' c = J c) ∧ J' 90 = J 90 ∧ J' 89 29 = J 89 29 := by
  have h3 := gHole3 hF hRM ha hb hT hU hTm hUm hTb hX hY tb.length 0 F (Nat.zero_add _) (by have := hTb.1; omega) (fun y hy => absurd hy (Nat.not_lt_zero _))
  unfold pHole
  by_cases c : pIdx tb s X Y < tb.length
  · rw [if_pos c] at h3 ⊢
    exact Or.inr ⟨_, _, J, rfl, h3, hTb, zJfJ_refl _ _, fun _ _ => rfl, rfl, rfl⟩
  · rw [if_neg c] at h3 ⊢
    by_cases h10 : tb.length < 10
    · rw [if_pos h10] at h3 ⊢
      refine Or.inr ⟨_, _, _, rfl, h3, gTb_new hTb h10 hX hY, zNewJ_fr _ _ _ _ _ _ _ _ _, fun c hc => ?_, ?_, ?_⟩
      · unfold zNewJ
        rw [zup_ne _ _ _ (by omega), zup_ne _ _ _ (by omega), zup_ne _ _ _ (by omega), zup_ne _ _ _ (by omega), zup_ne _ _ _ (by omega), zup_ne _ _ _ (by omega), zup_ne _ _ _ (by omega), zup_ne _ _ _ (by omega)]
      · unfold zNewJ
        rw [zup_ne _ _ _ (by decide), zup_ne _ _ _ (by decide), zup_ne _ _ _ (by decide), zup_ne _ _ _ (by decide), zup_ne _ _ _ (by decide), zup_ne _ _ _ (by decide), zup_ne _ _ _ (by decide), zup_ne _ _ _ (by decide)]
      · unfold zNewJ
        rw [zup_self_ne _ _ _ (by decide), zup_nb _ _ _ (by decide), zup_nb _ _ _ (by decide), zup_nb _ _ _ (by decide), zup_nb _ _ _ (by decide), zup_nb _ _ _ (by decide), zup_nb _ _ _ (by decide), zup_nb _ _ _ (by decide)]
    · rw [if_neg h10] at h3 ⊢
      exact Or.inl ⟨rfl, h3⟩
end GTB
