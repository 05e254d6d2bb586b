/-! THE GHOST MATCHES: what its loop computes is mt -/
/-- X is what a hole of sort s is filled by, at j -/
def gQt (U : Tm) (s : Nat) (X : aFo) (j : Nat) : Prop := (s = 1 ∧ qLn X = 1 ∧ j + qSz X ≤ tn U ∧ ∃ d, aTf U X j d) ∨ (s = 2 ∧ j < tn U ∧ X = pBr (ts U j * 16 + tg U j) pNil pNil)
theorem gQt_le {U : Tm} {s j : Nat} {X : aFo} (h : gQt U s X j) : j + qSz X ≤ tn U := by
  rcases h with ⟨-, -, h, -⟩ | ⟨-, h, rfl⟩
  · exact h
  · show j + (1 + 0 + 0) ≤ _; omega
def gFl (J : zI) (U : Tm) (hs : Nat → Nat) (f : pFl) : Prop := ∀ h, h < 10 → (f h = none ∧ J 113 h = -1) ∨ ∃ X j, f h = some (X, j) ∧ J 112 h = nI j ∧ J 113 h = nI (qSz X) ∧ gQt U (hs h) X j
def gMf (J J' : zI) : Prop := (∀ b, b ≠ 89 → b < 107 ∨ 114 < b → J' b = J b) ∧ ∀ k, k ≠ 29 → J' 89 k = J 89 k
theorem gMf_refl (J : zI) : gMf J J := ⟨fun _ _ _ => rfl, fun _ _ => rfl⟩
theorem gMf_trans {J J' J'' : zI} (h : gMf J J') (h2 : gMf J' J'') : gMf J J'' := ⟨fun b h3 h4 => by rw [h2.1 b h3 h4, h.1 b h3 h4], fun k hk => by rw [h2.2 k hk, h.2 k hk]⟩
theorem zFr_mf {s : Nat} {J J' : zI} (h : zFr s J J') : gMf J J' := ⟨fun b b1 b2 => h.1 b b1 (by omega), h.2.1⟩
section GM
variable {F : Nat} {J : zI} {RM : zR} {o q s i j : Nat} {T U : Tm} {hs : Nat → Nat} {f : pFl}
theorem tm_g12 {U : Tm} (hU : tWF U) {j : Nat} (hj : j < tn U) : ts U j ≤ 3 ∧ tg U j ≤ 12 := by
  obtain ⟨m1, m2, m3, m4, -⟩ := hU.2.1 j hj
  refine ⟨m1, ?_⟩
  by_cases h0 : ts U j = 0
  · exact m3 h0
  · have := m4 h0; omega
theorem gFill (hF : 200 ≤ F) (hRM : zRM RM) (ho : o + 97 ≤ 5751) (hU : tWF U) (hUm : zTm (J 90) o U) {g : Nat} (hg : g < 10) (hf : gFl J U hs f) {X : aFo} (hX : gQt U (hs g) X j) {e : Int32} (he : e = if hs g = 2 then 1 else 0) (w : Int32) :
    (pFill f g X j = none ∧ f_X7_fills F zKm J RM 89 (nI o) (nI g) e (nI j) (nI (qSz X)) w = some (0, J)) ∨ ∃ f1 J', pFill f g X j = some f1 ∧ f_X7_fills F zKm J RM 89 (nI o) (nI g) e (nI j) (nI (qSz X)) w = some (1, J') ∧ gFl J' U hs f1 ∧ ∀ b, b < 112 ∨ 114 < b → J' b = J b := by
  subst he
  have q0 : RM 89 0 = some 90 := hRM 89 0 (by decide) (by decide) (by decide)
  have q30 : RM 89 30 = some 112 := hRM 89 30 (by decide) (by decide) (by decide)
  have q31 : RM 89 31 = some 113 := hRM 89 31 (by decide) (by decide) (by decide)
  have k113 : zKm 112 = (1, 10) := rfl
  have k114 : zKm 113 = (1, 10) := rfl
  have hm := hU.1.2.1
  have lX := gQt_le hX
  rcases hf g hg with ⟨f0, f1⟩ | ⟨X', j', f0, f1, f2, f3⟩
  · right
    refine ⟨fun x => if x = g then some (X, j) else f x, _, by unfold pFill; rw [f0], X7_fills_new hRM (nI o) _ w hg f1, fun x hx => ?_, fun b hb => ?_⟩
    · by_cases hxg : x = g
      · subst hxg
        refine Or.inr ⟨X, j, if_pos rfl, ?_, ?_, hX⟩
        · rw [zup_nb _ _ _ (by decide), zup_nb _ _ _ (by decide), zup_self]
        · rw [zup_nb _ _ _ (by decide), zup_self]
      · have q1 : zup (zup (zup J 112 g (nI j)) 113 g (nI (qSz X))) 114 g w 113 x = J 113 x := by
          rw [zup_nb _ _ _ (by decide), zup_self_ne _ _ _ hxg, zup_nb _ _ _ (by decide)]
        have q2 : zup (zup (zup J 112 g (nI j)) 113 g (nI (qSz X))) 114 g w 112 x = J 112 x := by
          rw [zup_nb _ _ _ (by decide), zup_nb _ _ _ (by decide), zup_self_ne _ _ _ hxg]
        rcases hf x hx with ⟨y1, y2⟩ | ⟨X1, j1, y1, y2, y3, y4⟩
        · exact Or.inl ⟨(if_neg hxg).trans y1, q1.trans y2⟩
        · exact Or.inr ⟨X1, j1, (if_neg hxg).trans y1, q2.trans y2, q1.trans y3, y4⟩
    · rw [zup_ne _ _ _ (by omega), zup_ne _ _ _ (by omega), zup_ne _ _ _ (by omega)]
  · have lX' := gQt_le f3
    have ep : pFill f g X j = if pEq X' X = true then some f else none := by unfold pFill; rw [f0]
    have e7 : f_X7_fills F zKm J RM 89 (nI o) (nI g) (if hs g = 2 then 1 else 0) (nI j) (nI (qSz X)) w = if (if hs g = 2 then (1 : Int32) else 0) = 0 then (if nI (qSz X') = nI (qSz X) then (zbd (f_X7_isSame F zKm J RM 89 (nI o) (nI j') (nI o) (nI j) (nI (qSz X))) fun v19 => if v19 = (0 : Int32) then some ((0 : Int32), J) else some ((1 : Int32), J)) else some ((0 : Int32), J)) else (zbd (f_X7_sort F zKm J RM 89 (nI o) (nI j)) fun v22 => zbd (f_X7_sort F zKm J RM 89 (nI o) (nI j')) fun v29 => if v22 = v29 then (zbd (f_X7_number F zKm J RM 89 (nI o) (nI j)) fun v32 => zbd (f_X7_number F zKm J RM 89 (nI o) (nI j')) fun v39 => if v32 = v39 then some ((1 : Int32), J) else some ((0 : Int32), J)) else some ((0 : Int32), J)) := by
      unfold f_X7_fills
      rw [q31, zbd_s, zdr_s (t := 1) (by rw [k114]), zbd_s, zrd_s (by rw [k114]; exact hg) (by rw [k114]; decide), zbd_s, f2, if_pos (nI_pos' (by omega))]
      simp only [zbd_s, q30, zdr_s (show (zKm 112).1 = 1 by rw [k113]), zdr_s (show (zKm 113).1 = 1 by rw [k114]), zrd_s (K := zKm) (I := J) (a := 112) (j := g) (by rw [k113]; exact hg) (by rw [k113]; decide), zrd_s (K := zKm) (I := J) (a := 113) (j := g) (by rw [k114]; exact hg) (by rw [k114]; decide), f1, f2]
    have yes : X' = X → f_X7_fills F zKm J RM 89 (nI o) (nI g) (if hs g = 2 then 1 else 0) (nI j) (nI (qSz X)) w = some (1, J) → (pFill f g X j = none ∧ f_X7_fills F zKm J RM 89 (nI o) (nI g) (if hs g = 2 then 1 else 0) (nI j) (nI (qSz X)) w = some (0, J)) ∨ ∃ f1 J', pFill f g X j = some f1 ∧ f_X7_fills F zKm J RM 89 (nI o) (nI g) (if hs g = 2 then 1 else 0) (nI j) (nI (qSz X)) w = some (1, J') ∧ gFl J' U hs f1 ∧ ∀ b, b < 112 ∨ 114 < b → J' b = J b := fun c c2 => Or.inr ⟨f, J, by rw [ep, if_pos ((pEq_iff _ _).mpr c)], c2, hf, fun _ _ => rfl⟩
    have no : X' ≠ X → f_X7_fills F zKm J RM 89 (nI o) (nI g) (if hs g = 2 then 1 else 0) (nI j) (nI (qSz X)) w = some (0, J) → (pFill f g X j = none ∧ f_X7_fills F zKm J RM 89 (nI o) (nI g) (if hs g = 2 then 1 else 0) (nI j) (nI (qSz X)) w = some (0, J)) ∨ ∃ f1 J', pFill f g X j = some f1 ∧ f_X7_fills F zKm J RM 89 (nI o) (nI g) (if hs g = 2 then 1 else 0) (nI j) (nI (qSz X)) w = some (1, J') ∧ gFl J' U hs f1 ∧ ∀ b, b < 112 ∨ 114 < b → J' b = J b := fun c c2 => Or.inl ⟨by rw [ep, if_neg (fun e => c ((pEq_iff _ _).mp e))], c2⟩
    rcases hX with ⟨h1, x1, x2, d, x3⟩ | ⟨h2, x1, x2⟩
    · rcases f3 with ⟨-, y1, y2, d', y3⟩ | ⟨e, -⟩
      · have e1 : (if hs g = 2 then (1 : Int32) else 0) = 0 := if_neg (by omega)
        rw [e1] at e7 yes no ⊢
        rw [if_pos rfl] at e7
        by_cases eX : qSz X' = qSz X
        · rw [if_pos (by rw [eX])] at e7
          obtain ⟨r, w5, w6⟩ := X7_isSame (F := F) q0 hF ho ho hU hU hUm hUm (show j' + qSz X ≤ tn U by rw [← eX]; exact lX') lX
          rw [w5, zbd_s] at e7
          rcases w6 with ⟨v1, v2⟩ | ⟨v1, v2⟩
          · rw [v1, if_neg (by decide)] at e7
            exact yes (tSame_eq X' X _ _ _ _ y3 x3 (by rw [x1, y1]) (by rw [eX]; exact v2)) e7
          · rw [v1, if_pos rfl] at e7
            exact no (fun c => v2 (by subst c; exact tSame_of y3 x3)) e7
        · rw [if_neg (fun x => eX (nI_inj (by omega) (by omega) x))] at e7
          exact no (fun c => eX (by rw [c])) e7
      · omega
    · rcases f3 with ⟨e, -⟩ | ⟨-, y1, y2⟩
      · omega
      · have e1 : (if hs g = 2 then (1 : Int32) else 0) = 1 := if_pos h2
        rw [e1] at e7 yes no ⊢
        obtain ⟨t1, t2⟩ := tm_g12 hU x1
        obtain ⟨t3, t4⟩ := tm_g12 hU y1
        rw [if_neg (by decide), X7_sort q0 ho hUm hm x1, zbd_s, X7_sort q0 ho hUm hm y1, zbd_s, X7_number q0 ho hUm hm x1, zbd_s, X7_number q0 ho hUm hm y1, zbd_s] at e7
        by_cases z1 : ts U j = ts U j'
        · rw [if_pos (by rw [z1])] at e7
          by_cases z2 : tg U j = tg U j'
          · rw [if_pos (by rw [z2])] at e7
            exact yes (by rw [x2, y2, z1, z2]) e7
          · rw [if_neg (fun x => z2 (nI_inj (by omega) (by omega) x))] at e7
            exact no (fun c => z2 (by
              rw [x2, y2] at c
              injection c with c1 _ _
              omega)) e7
        · rw [if_neg (fun x => z1 (nI_inj (by omega) (by omega) x))] at e7
          exact no (fun c => z1 (by
            rw [x2, y2] at c
            injection c with c1 _ _
            omega)) e7
/-- the arguments come to the stack, if their numbers fit -/
theorem gMArgs (hRM : zRM RM) (hF : 100 ≤ F) (ho : o + 97 ≤ 5751) (hq : q + 97 ≤ 5751) (hT : tWF T) (hU : tWF U) (hT3 : tN3 T) (hTm : zTm (J 90) o T) (hUm : zTm (J 90) q U) (hi : i < tn T) (hj : j < tn U) (hsJ : J 89 29 = nI s) (hs2 : s + 9 ≤ 160) (h93 : ∀ y, y < tn T → J 92 y = nI (tsp T y)) (h94 : ∀ y, y < tn U → J 93 y = nI (tsp U y)) :
    (tr T i ≠ tr U j ∧ f_X7_matchesArguments F zKm J RM 89 (nI o) (nI i) (nI q) (nI j) = some (0, J)) ∨ (tr T i = tr U j ∧ ∃ J', f_X7_matchesArguments F zKm J RM 89 (nI o) (nI i) (nI q) (nI j) = some (1, J') ∧ zFr s J J' ∧ J' 89 29 = nI (s + tr T i) ∧ gFr J' T U (i + 1) (j + 1) (tr T i) s) := by
  have hsq := sqO_n3 hT hT3 hi
  have hr := (hT.2.1 i hi).2.1
  rcases X7_place (F := F) hRM hF ho hq hT hU hTm hUm hi hj hsJ (by omega) h93 h94 with ⟨a1, a2⟩ | ⟨a1, J', a2, a3, a4, a5⟩
  · refine Or.inl ⟨fun e => a1 ?_, a2⟩
    unfold zfit
    simp only [hsq]
    exact e
  · refine Or.inr ⟨?_, J', a2, a3, a4, fun y hy => ?_⟩
    · unfold zfit at a1
      simp only [hsq] at a1
      exact a1
    · have := a5 y hy
      unfold zAe zte at this
      simp only [hsq] at this
      rw [if_neg (sqO_none hsq y hy)] at this
      exact this
def gMS (J : zI) (o q : Nat) (T U : Tm) (hs : Nat → Nat) (f : pFl) : Prop := zTm (J 90) o T ∧ zTm (J 90) q U ∧ (∀ y, y < tn T → J 92 y = nI (tsp T y)) ∧ (∀ y, y < tn U → J 93 y = nI (tsp U y)) ∧ gFl J U hs f
theorem gFl_keep {J' : zI} (h : gFl J U hs f) (h1 : J' 112 = J 112) (h2 : J' 113 = J 113) : gFl J' U hs f := fun x hx => by rw [h1, h2]; exact h x hx
theorem gMS_keep {J' : zI} {f' : pFl} (h : gMS J o q T U hs f) (hJ : gMf J J') (hf : gFl J' U hs f') : gMS J' o q T U hs f' := by
  obtain ⟨a1, a2, a3, a4, -⟩ := h
  exact ⟨by rw [hJ.1 90 (by decide) (by decide)]; exact a1, by rw [hJ.1 90 (by decide) (by decide)]; exact a2, fun y hy => by rw [hJ.1 92 (by decide) (by decide)]; exact a3 y hy, fun y hy => by rw [hJ.1 93 (by decide) (by decide)]; exact a4 y hy, hf⟩
/-- one round of the loop -/
theorem match55 (hsJ : J 89 29 = nI (s + 1)) (hs2 : s < 1000) (fu : Nat) (x y : Int32) : f_X7_matches_55 F zKm RM 89 (fu + 1) J x y 1 = (zbd2 (f_X7_matchesNext F zKm (zup J 89 29 (nI s)) RM 89 x y) fun v6 I7 => f_X7_matches_55 F zKm RM 89 fu I7 x y v6) := by
  show g_X7_matches_55 F zKm RM 89 _ J x y 1 = _
  unfold g_X7_matches_55
  rw [if_neg (by decide), hsJ, if_neg (show ¬ (nI (s + 1) ≤ (0 : Int32)) from nI_nle (by omega) (by omega)), nI_pred, zbd_s]
theorem match55_0 (fu : Nat) (x y : Int32) : f_X7_matches_55 F zKm RM 89 (fu + 1) J x y 0 = some (0, J) := by
  show g_X7_matches_55 F zKm RM 89 _ J x y 0 = _
  unfold g_X7_matches_55
  rw [if_pos rfl, if_pos (Or.inl rfl)]
/-- one pair of nodes -/
theorem gmOne (hF : 200 ≤ F) (hRM : zRM RM) (ho : o + 97 ≤ 5751) (hq : q + 97 ≤ 5751) (hT : tWF T) (hU : tWF U) (hT3 : tN3 T) (hU3 : tN3 U) {w v d d' : Nat} {p k : aFo} (hA : aTf T (pBr w p pNil) i d) (hB : aTf U (pBr v k pNil) j d') (hi : i + 1 + qSz p ≤ tn T) (hj : j + 1 + qSz k ≤ tn U) (hw : 16 ≤ w → hs (w % 16) = w / 16) (h : gMS J o q T U hs f) (hsJ : J 89 29 = nI (s + 1)) (hs2 : s + 9 ≤ 160) (hen : zEn J s (0, nI i, 0, nI j, 0)) :
    (((w < 16 ∧ ¬ (v = w ∧ qLn p = qLn k)) ∨ (16 ≤ w ∧ w < 32 ∧ pFill f (w % 16) (pBr v k pNil) j = none) ∨ (32 ≤ w ∧ (¬ (v < 16 ∨ 32 ≤ v) ∨ pFill f (w % 16) (pBr v pNil pNil) j = none ∨ qLn p ≠ qLn k))) ∧ ∃ J', (∀ fu, f_X7_matches_55 F zKm RM 89 (fu + 2) J (nI o) (nI q) 1 = some (0, J')) ∧ gMf J J') ∨
    ∃ (c : Nat) (f1 : pFl) (J3 : zI), (∀ fu, f_X7_matches_55 F zKm RM 89 (fu + 1) J (nI o) (nI q) 1 = f_X7_matches_55 F zKm RM 89 fu J3 (nI o) (nI q) 1) ∧ gMS J3 o q T U hs f1 ∧ J3 89 29 = nI (s + c) ∧ gFr J3 T U (i + 1) (j + 1) c s ∧ gMf J J3 ∧ zFrS s J J3 ∧
      ((w < 16 ∧ v = w ∧ qLn p = qLn k ∧ f1 = f ∧ c = qLn p) ∨ (16 ≤ w ∧ w < 32 ∧ pFill f (w % 16) (pBr v k pNil) j = some f1 ∧ c = 0) ∨ (32 ≤ w ∧ (v < 16 ∨ 32 ≤ v) ∧ pFill f (w % 16) (pBr v pNil pNil) j = some f1 ∧ qLn p = qLn k ∧ c = qLn p)) := by
  have hB0 := hB
  obtain ⟨⟨a1, a2, a3, a4, a5⟩, hAk, -⟩ := hA
  obtain ⟨⟨b1, b2, b3, b4, b5⟩, hBk, -⟩ := hB
  have hi0 : i < tn T := by omega
  have hj0 : j < tn U := by omega
  have tn1 := hT.1.2.1
  have tn2 := hU.1.2.1
  have trT := (hT.2.1 i hi0).2.1
  have trU := (hU.2.1 j hj0).2.1
  obtain ⟨sT, gT⟩ := tm_g12 hT hi0
  obtain ⟨sU, gU⟩ := tm_g12 hU hj0
  have hT9 := (hT.2.1 i hi0).2.2.2.1
  have nT3 := hT3 i hi0
  have nU3 := hU3 j hj0
  have r0 : RM 89 0 = some 90 := hRM 89 0 (by decide) (by decide) (by decide)
  have r6 : RM 89 6 = some 93 := hRM 89 6 (by decide) (by decide) (by decide)
  have r24 : RM 89 24 = some 107 := hRM 89 24 (by decide) (by decide) (by decide)
  have r25 : RM 89 25 = some 108 := hRM 89 25 (by decide) (by decide) (by decide)
  have r26 : RM 89 26 = some 109 := hRM 89 26 (by decide) (by decide) (by decide)
  have k94 : zKm 93 = (1, 32) := rfl
  have k108 : zKm 107 = (2, 160) := rfl
  have k109 : zKm 108 = (1, 160) := rfl
  have k110 : zKm 109 = (1, 160) := rfl
  have fM0 : gMf J (zup J 89 29 (nI s)) := zFr_mf (zFr_pop s)
  have fS0 : zFrS s J (zup J 89 29 (nI s)) := zFr_frS (zFr_pop s)
  have hx := match55 (F := F) (RM := RM) hsJ (by omega)
  have h0 : gMS (zup J 89 29 (nI s)) o q T U hs f := gMS_keep h fM0 (gFl_keep h.2.2.2.2 (zup_ne _ _ _ (by decide)) (zup_ne _ _ _ (by decide)))
  obtain ⟨j1, j2, j3, j4, j5⟩ := h0
  have h0 : gMS (zup J 89 29 (nI s)) o q T U hs f := ⟨j1, j2, j3, j4, j5⟩
  have e29 : zup J 89 29 (nI s) 89 29 = nI s := zup_self _ _ _ _
  obtain ⟨e1, e2, -, e4, -⟩ := hen
  simp only at e1 e2 e4
  have e1 : zup J 89 29 (nI s) 107 s = 0 := by rw [zup_nb _ _ _ (by decide)]; exact e1
  have e2 : zup J 89 29 (nI s) 108 s = nI i := by rw [zup_nb _ _ _ (by decide)]; exact e2
  have e4 : zup J 89 29 (nI s) 109 s = nI j := by rw [zup_nb _ _ _ (by decide)]; exact e4
  generalize zup J 89 29 (nI s) = J0 at *
  have hal := X7_isAlike (F := F) (J := J0) hRM ho hq hT hU j1 j2 hi0 hj0
  have hnx : f_X7_matchesNext F zKm J0 RM 89 (nI o) (nI q) = if nI (ts T i) = (1 : Int32) then (if nI (ts U j) = (3 : Int32) then some (0, J0) else (zbd2 (f_X7_fills F zKm J0 RM 89 (nI q) (nI (tg T i)) 0 (nI j) (nI (tsp U j)) 1) fun v57 I58 => if v57 = (0 : Int32) then some ((0 : Int32), I58) else some ((1 : Int32), I58))) else if nI (ts T i) = (2 : Int32) then (if nI (ts U j) = (0 : Int32) then f_X7_matchesNext_149 F zKm RM 89 J0 (nI o) (nI q) (nI i) (nI j) else if nI (ts U j) = (2 : Int32) then f_X7_matchesNext_149 F zKm RM 89 J0 (nI o) (nI q) (nI i) (nI j) else f_X7_matchesNext_154 F zKm RM 89 J0 (nI o) (nI q) (nI i) (nI j) 0) else if (if ts T i = 0 ∧ ts U j = 0 ∧ tg T i = tg U j then (1 : Int32) else 0) = 0 then some (0, J0) else (zbd2 (f_X7_matchesArguments F zKm J0 RM 89 (nI o) (nI i) (nI q) (nI j)) fun v37 I38 => if v37 = (0 : Int32) then some ((0 : Int32), I38) else some ((1 : Int32), I38)) := by
    unfold f_X7_matchesNext
    rw [r25, zbd_s, zdr_s (t := 1) (by rw [k109]), zbd_s, e29, zrd_s (by rw [k109]; show s < 160; omega) (by rw [k109]; decide), zbd_s, e2, r26, zbd_s, zdr_s (t := 1) (by rw [k110]), zbd_s, zrd_s (by rw [k110]; show s < 160; omega) (by rw [k110]; decide), zbd_s, e4, r24, zbd_s, zdr_s (t := 2) (by rw [k108]), zbd_s, zrd_s (by rw [k108]; show s < 160; omega) (by rw [k108]; decide), zbd_s, e1, if_pos rfl, X7_sort r0 ho j1 tn1 hi0, zbd_s]
    rw [X7_sort r0 hq j2 tn2 hj0, zbd_s, X7_number r0 ho j1 tn1 hi0, zbd_s, r6, zbd_s, zdr_s (t := 1) (by rw [k94]), zbd_s, zrd_s (by rw [k94]; show j < 32; omega) (by rw [k94]; decide), zbd_s, j4 j hj0, zbd_s, zbd_s, zbd_s, hal, zbd_s]
  have n149 : f_X7_matchesNext_149 F zKm RM 89 J0 (nI o) (nI q) (nI i) (nI j) = (zbd2 (f_X7_fills F zKm J0 RM 89 (nI q) (nI (tg T i)) 1 (nI j) 1 1) fun v4 I5 => if v4 = (0 : Int32) then some ((0 : Int32), I5) else (zbd2 (f_X7_matchesArguments F zKm I5 RM 89 (nI o) (nI i) (nI q) (nI j)) fun v8 I9 => if v8 = (0 : Int32) then some ((0 : Int32), I9) else some ((1 : Int32), I9))) := by
    unfold f_X7_matchesNext_149 f_X7_matchesNext_154
    rw [if_neg (by decide), X7_number r0 ho j1 tn1 hi0, zbd_s]
  have fail : ∀ J', f_X7_matchesNext F zKm J0 RM 89 (nI o) (nI q) = some (0, J') → ∀ fu, f_X7_matches_55 F zKm RM 89 (fu + 2) J (nI o) (nI q) 1 = some (0, J') := fun J' e fu => by
    rw [show fu + 2 = fu + 1 + 1 from rfl, hx, e, zbd2_s, match55_0]
  have good : ∀ J', f_X7_matchesNext F zKm J0 RM 89 (nI o) (nI q) = some (1, J') → ∀ fu, f_X7_matches_55 F zKm RM 89 (fu + 1) J (nI o) (nI q) 1 = f_X7_matches_55 F zKm RM 89 fu J' (nI o) (nI q) 1 := fun J' e fu => by
    rw [hx, e, zbd2_s]
  by_cases c1 : w < 16
  · -- a symbol
    have sT0 : ts T i = 0 := by omega
    rw [if_neg (fun x => by have := (ni1 (by omega)).mp x; omega), if_neg (fun x => by have := (ni2 (by omega)).mp x; omega)] at hnx
    by_cases al : ts T i = 0 ∧ ts U j = 0 ∧ tg T i = tg U j
    · rw [if_pos al, if_neg (by decide)] at hnx
      rcases gMArgs (F := F) hRM (by omega) ho hq hT hU hT3 j1 j2 hi0 hj0 e29 hs2 j3 j4 with ⟨m1, m2⟩ | ⟨m1, J', m2, m3, m4, m5⟩
      · rw [m2, zbd2_s, if_pos rfl] at hnx
        exact Or.inl ⟨Or.inl ⟨c1, fun e => m1 (by omega)⟩, J0, fail _ hnx, fM0⟩
      · rw [m2, zbd2_s, if_neg (by decide)] at hnx
        exact Or.inr ⟨tr T i, f, J', good _ hnx, gMS_keep h0 (zFr_mf m3) (gFl_keep j5 (m3.1 112 (by decide) (by decide)) (m3.1 113 (by decide) (by decide))), m4, m5, gMf_trans fM0 (zFr_mf m3), zFrS_trans fS0 (zFr_frS m3), Or.inl ⟨c1, by omega, by omega, rfl, a3⟩⟩
    · rw [if_neg al, if_pos rfl] at hnx
      exact Or.inl ⟨Or.inl ⟨c1, fun e => al ⟨sT0, by omega, by omega⟩⟩, J0, fail _ hnx, fM0⟩
  · have hg9 := hT9 (by omega)
    have hhs := hw (by omega)
    rw [show w % 16 = tg T i from a2.symm] at hhs ⊢
    by_cases c2 : w < 32
    · -- a hole for terms
      have sT1 : ts T i = 1 := by omega
      rw [if_pos ((ni1 (by omega)).mpr sT1), if_neg (fun x => nU3 ((ni3 (by omega)).mp x))] at hnx
      have pX : gQt U (hs (tg T i)) (pBr v k pNil) j := Or.inl ⟨by omega, rfl, by show j + (1 + qSz k + 0) ≤ _; omega, d', hB0⟩
      have hf := gFill (F := F) hF hRM hq hU j2 (show tg T i < 10 by omega) j5 pX (e := 0) (by rw [if_neg (by omega)]) 1
      rw [show qSz (pBr v k pNil) = tsp U j from b4.symm] at hf
      rcases hf with ⟨m1, m2⟩ | ⟨f1, J', m1, m2, m3, m4⟩
      · rw [m2, zbd2_s, if_pos rfl] at hnx
        exact Or.inl ⟨Or.inr (Or.inl ⟨by omega, c2, m1⟩), J0, fail _ hnx, fM0⟩
      · rw [m2, zbd2_s, if_neg (by decide)] at hnx
        have mf : gMf J0 J' := ⟨fun b _ hb => m4 b (by omega), fun k _ => by rw [m4 89 (by decide)]⟩
        exact Or.inr ⟨0, f1, J', good _ hnx, gMS_keep h0 mf m3, by rw [m4 89 (by decide)]; exact e29, fun y hy => absurd hy (Nat.not_lt_zero _), gMf_trans fM0 mf, zFrS_trans fS0 (fun c c1 c2 x _ => by rw [m4 c (by omega)]), Or.inr (Or.inl ⟨by omega, c2, m1, rfl⟩)⟩
    · -- a hole for heads
      have sT2 : ts T i = 2 := by omega
      rw [if_neg (fun x => by have := (ni1 (by omega)).mp x; omega), if_pos ((ni2 (by omega)).mpr sT2)] at hnx
      by_cases cv : v < 16 ∨ 32 ≤ v
      · have hnx : f_X7_matchesNext F zKm J0 RM 89 (nI o) (nI q) = f_X7_matchesNext_149 F zKm RM 89 J0 (nI o) (nI q) (nI i) (nI j) := by
          by_cases z : ts U j = 0
          · rw [if_pos ((ni0 (by omega)).mpr z)] at hnx; exact hnx
          · rw [if_neg (fun x => z ((ni0 (by omega)).mp x)), if_pos ((ni2 (by omega)).mpr (by omega))] at hnx; exact hnx
        rw [n149] at hnx
        have pX : gQt U (hs (tg T i)) (pBr v pNil pNil) j := Or.inr ⟨by omega, hj0, by rw [show v = ts U j * 16 + tg U j by omega]⟩
        have hf := gFill (F := F) hF hRM hq hU j2 (show tg T i < 10 by omega) j5 pX (e := 1) (by rw [if_pos (by omega)]) 1
        rw [show nI (qSz (pBr v pNil pNil)) = 1 from rfl] at hf
        rcases hf with ⟨m1, m2⟩ | ⟨f1, J', m1, m2, m3, m4⟩
        · rw [m2, zbd2_s, if_pos rfl] at hnx
          exact Or.inl ⟨Or.inr (Or.inr ⟨by omega, Or.inr (Or.inl m1)⟩), J0, fail _ hnx, fM0⟩
        · rw [m2, zbd2_s, if_neg (by decide)] at hnx
          have mf : gMf J0 J' := ⟨fun b _ hb => m4 b (by omega), fun k _ => by rw [m4 89 (by decide)]⟩
          obtain ⟨k1, k2, k3, k4, k5⟩ := gMS_keep h0 mf m3
          have fS1 : zFrS s J J' := zFrS_trans fS0 (fun c c1 c2 x _ => by rw [m4 c (by omega)])
          rcases gMArgs (F := F) hRM (by omega) ho hq hT hU hT3 k1 k2 hi0 hj0 (by rw [m4 89 (by decide)]; exact e29) hs2 k3 k4 with ⟨n1, n2⟩ | ⟨n1, J2, n2, n3, n4, n5⟩
          · rw [n2, zbd2_s, if_pos rfl] at hnx
            exact Or.inl ⟨Or.inr (Or.inr ⟨by omega, Or.inr (Or.inr (by omega))⟩), J', fail _ hnx, gMf_trans fM0 mf⟩
          · rw [n2, zbd2_s, if_neg (by decide)] at hnx
            exact Or.inr ⟨tr T i, f1, J2, good _ hnx, gMS_keep ⟨k1, k2, k3, k4, k5⟩ (zFr_mf n3) (gFl_keep k5 (n3.1 112 (by decide) (by decide)) (n3.1 113 (by decide) (by decide))), n4, n5, gMf_trans fM0 (gMf_trans mf (zFr_mf n3)), zFrS_trans fS1 (zFr_frS n3), Or.inr (Or.inr ⟨by omega, cv, m1, by omega, a3⟩)⟩
      · have hnx : f_X7_matchesNext F zKm J0 RM 89 (nI o) (nI q) = some (0, J0) := by
          rw [if_neg (fun x => by have := (ni0 (by omega)).mp x; omega), if_neg (fun x => by have := (ni2 (by omega)).mp x; omega)] at hnx
          rw [hnx]
          unfold f_X7_matchesNext_154
          rw [if_pos rfl]
        exact Or.inl ⟨Or.inr (Or.inr ⟨by omega, Or.inl cv⟩), J0, fail _ hnx, fM0⟩
end GM
