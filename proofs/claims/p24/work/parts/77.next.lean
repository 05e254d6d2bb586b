/-! matchNode() and matchesNext() together, for one node of the pattern -/
section ZNX
variable {F : Nat} {K : zK} {I : zI} {R : zR} {J : zI} {RM : zR} {m t u o q i s : Nat} {T U : Tm}
/-- the end of one node: both sides go on together -/
def zNext (T U : Tm) (I I' J J' : zI) (m i s : Nat) : Prop := zFl T U I' J' m (i + 1) ∧ J' 89 29 = nI (s + tr T i) ∧ zFrS s J J' ∧ (∀ p, p ≤ i ∨ i + tsp T i ≤ p → I' (m + 9) p = I (m + 9) p ∧ I' (m + 10) p = I (m + 10) p) ∧ ∀ y, y < tr T i → zNode T U I' J' m (tc T i y) (s + (tr T i - 1 - y))
/-- a hole without arguments -/
theorem leaf_both (hF : 200 ≤ F) (hM : zMk K R m) (h0 : R m 0 = some t) (h1 : R m 1 = some u) (hRM : zRM RM) (hq : q + 97 ≤ 5751) (hT : tWF T) (hU : tWF U) (hTc : zTc K I R t T) (hUc : zTc K I R u U) (hUm : zTm (J 90) q U) (hi : i < tn T) (h13 : ts T i = 1 ∨ ts T i = 3) (hfl : zFl T U I J m i) {j c e : Nat} (he : I (m + 10) i = nI e) (hfi : tFill U (ts T i) j c e) (hs : J 89 29 = nI s) :
    ∃ (v : Int32) (I' J' : zI), (v = 0 ∨ v = 1) ∧ f_X1_fill F K I R m (nI i) (nI j) (nI c) = some (v, I') ∧ f_X7_fills F zKm J RM 89 (nI q) (nI (tg T i)) 0 (nI j) (nI c) (nI e) = some (v, J') ∧ zFrC m I I' ∧ zFrJ J J' ∧ (v = 1 → zNext T U I I' J J' m i s) := by
  have hr : tr T i = 0 := (hT.2.1 i hi).2.2.2.2.1 h13
  obtain ⟨v, I', J', hv, q1, q2, q3, q4, q5⟩ := fill_both (F := F) (x3 := 0) hF hM h0 h1 hRM hq hT hU hTc hUc hUm hi (by omega) hfl he hfi (by rw [if_neg (by omega)])
  refine ⟨v, I', J', hv, q1, q2, fun b hb => q3 b (by omega), ⟨fun b b1 b2 => q4 b (by omega), fun k _ => by rw [q4 89 (by omega)]⟩, fun h => ⟨q5 h, ?_, fun b b1 b2 k _ => by rw [q4 b (by omega)], fun p _ => ⟨by rw [q3 _ (by omega)], by rw [q3 _ (by omega)]⟩, fun y hy => by omega⟩⟩
  rw [q4 89 (by omega), hr]
  exact hs
theorem node_both (hF : 200 ≤ F) (hM : zMk K R m) (h0 : R m 0 = some t) (h1 : R m 1 = some u) (ht : 92 ≤ t) (hu : 92 ≤ u) (hRM : zRM RM) (ho : o + 97 ≤ 5751) (hq : q + 97 ≤ 5751) (hT : tWF T) (hU : tWF U) (hTc : zTc K I R t T) (hUc : zTc K I R u U) (hTm : zTm (J 90) o T) (hUm : zTm (J 90) q U) (hi : i < tn T) (hfl : zFl T U I J m i) (hnd : zNode T U I J m i s) (hs : J 89 29 = nI s) (hs2 : s ≤ 40) (h93 : ∀ y, y < tn T → J 92 y = nI (tsp T y)) (h94 : ∀ y, y < tn U → J 93 y = nI (tsp U y)) :
    ∃ (v : Int32) (I' J' : zI), (v = 0 ∨ v = 1) ∧ f_X1_matchNode F K I R m (nI i) (I (m + 9) i) = some (v, I') ∧ f_X7_matchesNext F zKm J RM 89 (nI o) (nI q) = some (v, J') ∧ zFrC m I I' ∧ zFrJ J J' ∧ (v = 1 → zNext T U I I' J J' m i s) := by
  have r0 : RM 89 0 = some 90 := hRM 89 0 (by decide) (by decide) (by decide)
  have r6 : RM 89 6 = some 93 := hRM 89 6 (by decide) (by decide) (by decide)
  have r24 : RM 89 24 = some 107 := hRM 89 24 (by decide) (by decide) (by decide)
  have r25 : RM 89 25 = some 108 := hRM 89 25 (by decide) (by decide) (by decide)
  have r26 : RM 89 26 = some 109 := hRM 89 26 (by decide) (by decide) (by decide)
  have r27 : RM 89 27 = some 110 := hRM 89 27 (by decide) (by decide) (by decide)
  have r28 : RM 89 28 = some 111 := hRM 89 28 (by decide) (by decide) (by decide)
  have k94 : zKm 93 = (1, 32) := rfl
  have k108 : zKm 107 = (2, 160) := rfl
  have k109 : zKm 108 = (1, 160) := rfl
  have k110 : zKm 109 = (1, 160) := rfl
  have k111 : zKm 110 = (1, 160) := rfl
  have k112 : zKm 111 = (1, 160) := rfl
  have k15 : (K t).1 = 15 := by rw [hTc.1]
  have u15 : (K u).1 = 15 := by rw [hUc.1]
  have k52 := hM.2.2.1.2.1
  have mr3 := hM.2.2.2.2.1
  have hn := hT.1.2.1
  have hn2 := hU.1.2.1
  obtain ⟨w1, w2, w3, w4, w5, w6, -⟩ := hT.2.1 i hi
  have w8 : ts T i < 2 ^ 31 := by omega
  obtain ⟨j, e, n1, n2, hc⟩ := hnd
  have hgo7 : ∀ f p x y z : Int32, zEn J s (f, p, x, y, z) → f_X7_matchesNext F zKm J RM 89 (nI o) (nI q) = if f = (0 : Int32) then (zbd (f_X7_sort F zKm J RM 89 (nI o) p) fun v28 => if v28 = (1 : Int32) then (zbd (f_X7_sort F zKm J RM 89 (nI q) y) fun v47 => if v47 = (3 : Int32) then some ((0 : Int32), J) else (zbd (f_X7_number F zKm J RM 89 (nI o) p) fun v50 => zbd (zrd zKm J 93 y) fun v56 => zbd2 (f_X7_fills F zKm J RM 89 (nI q) v50 (0 : Int32) y v56 (1 : Int32)) fun v57 I58 => if v57 = (0 : Int32) then some ((0 : Int32), I58) else some ((1 : Int32), I58))) else (zbd (f_X7_sort F zKm J RM 89 (nI o) p) fun v31 => if v31 = (2 : Int32) then (zbd (f_X7_sort F zKm J RM 89 (nI q) y) fun v41 => if v41 = (0 : Int32) then f_X7_matchesNext_149 F zKm RM 89 J (nI o) (nI q) p y else (zbd (f_X7_sort F zKm J RM 89 (nI q) y) fun v44 => if v44 = (2 : Int32) then f_X7_matchesNext_149 F zKm RM 89 J (nI o) (nI q) p y else f_X7_matchesNext_154 F zKm RM 89 J (nI o) (nI q) p y (0 : Int32))) else (zbd (f_X7_isAlike F zKm J RM 89 (nI o) p (nI q) y) fun v34 => if v34 = (0 : Int32) then some ((0 : Int32), J) else (zbd2 (f_X7_matchesArguments F zKm J RM 89 (nI o) p (nI q) y) fun v37 I38 => if v37 = (0 : Int32) then some ((0 : Int32), I38) else some ((1 : Int32), I38))))) else (zbd (f_X7_number F zKm J RM 89 (nI o) p) fun v61 => zbd2 (f_X7_fills F zKm J RM 89 (nI q) v61 (0 : Int32) y z x) fun v73 I74 => if v73 = 0 ∨ v73 = 1 then some (v73, I74) else none) := fun f p x y z h => by
    obtain ⟨g1, g2, g3, g4, g5⟩ := h
    simp only at g1 g2 g3 g4 g5
    unfold f_X7_matchesNext
    simp only [r6, r24, r25, r26, r27, r28, zbd_s, hs, zdr_s (K := zKm) (a := 93) (t := 1) (by rw [k94]), zdr_s (K := zKm) (a := 107) (t := 2) (by rw [k108]), zdr_s (K := zKm) (a := 108) (t := 1) (by rw [k109]), zdr_s (K := zKm) (a := 109) (t := 1) (by rw [k110]), zdr_s (K := zKm) (a := 110) (t := 1) (by rw [k111]), zdr_s (K := zKm) (a := 111) (t := 1) (by rw [k112]), zrd_s (K := zKm) (I := J) (a := 107) (j := s) (by rw [k108]; show s < 160; omega) (by rw [k108]; decide), zrd_s (K := zKm) (I := J) (a := 108) (j := s) (by rw [k109]; show s < 160; omega) (by rw [k109]; decide), zrd_s (K := zKm) (I := J) (a := 109) (j := s) (by rw [k110]; show s < 160; omega) (by rw [k110]; decide), zrd_s (K := zKm) (I := J) (a := 110) (j := s) (by rw [k111]; show s < 160; omega) (by rw [k111]; decide), zrd_s (K := zKm) (I := J) (a := 111) (j := s) (by rw [k112]; show s < 160; omega) (by rw [k112]; decide), g1, g2, g3, g4, g5]
  rcases hc with ⟨hc, rfl, hj, hen⟩ | ⟨hc, c, hsg, hen⟩
  · have hgo := hgo7 _ _ _ _ _ hen
    rw [if_pos rfl, X7_sort r0 ho hTm hn hi, zbd_s, X7_sort r0 hq hUm hn2 hj, zbd_s, zbd_s, zbd_s, zbd_s, X7_number r0 ho hTm hn hi, zbd_s, zrd_s (by rw [k94]; show j < 32; omega) (by rw [k94]; decide), zbd_s, h94 j hj] at hgo
    obtain ⟨g1, g2, g3, g4, -⟩ := hU.2.1 j hj
    have g8 : ts U j < 2 ^ 31 := by omega
    have hs4 : ts T i = 0 ∨ ts T i = 1 ∨ ts T i = 2 := by omega
    have hgoc : f_X1_matchNode F K I R m (nI i) (I (m + 9) i) = if nI (ts T i) = 1 then (if nI (ts U j) = (-1 : Int32) then some ((0 : Int32), I) else if nI (ts U j) = (3 : Int32) then some ((0 : Int32), I) else (zbd2 (f_X1_fill F K I R m (nI i) (nI j) (nI (tsp U j))) fun v29 I30 => if v29 = (0 : Int32) then some ((0 : Int32), I30) else some ((1 : Int32), I30))) else if nI (ts T i) = 2 then (if nI (ts U j) = (0 : Int32) then f_X1_matchNode_111 F K R m I (nI i) (nI j) else if nI (ts U j) = (2 : Int32) then f_X1_matchNode_111 F K R m I (nI i) (nI j) else some ((0 : Int32), I)) else (if nI (ts T i * 16 + tg T i) = nI (ts U j * 16 + tg U j) then (zbd2 (f_X1_placeArguments F K I R m (nI i) (nI j)) fun v66 I67 => if v66 = (0 : Int32) then some ((0 : Int32), I67) else some ((1 : Int32), I67)) else some ((0 : Int32), I)) := by
      rw [n1]
      unfold f_X1_matchNode
      rw [h1, zbd_s, zdr_s u15, zbd_s, X5_sortOf hUc hU hj, zbd_s, h0, zbd_s, zdr_s k15, zbd_s, X5_sortOf hTc hT hi, zbd_s]
      rw [if_neg (show ¬ (nI (ts T i) = (3 : Int32)) from fun e => hc ((ni3 w8).mp e))]
      simp only [zbd_s, zdr_s u15, zdr_s k15, X5_spanOf hUc hU hj, X5_headOf hUc hU hj, X5_headOf hTc hT hi]
    rcases hs4 with h4 | h4 | h4
    · -- a symbol
      have hal := X7_isAlike (F := F) (J := J) hRM ho hq hT hU hTm hUm hi hj
      rw [if_neg (fun e => by have := (ni1 w8).mp e; omega), if_neg (fun e => by have := (ni2 w8).mp e; omega), hal, zbd_s] at hgo
      rw [if_neg (fun e => by have := (ni1 w8).mp e; omega), if_neg (fun e => by have := (ni2 w8).mp e; omega)] at hgoc
      have w7 := w3 h4
      have g7 : tg U j ≤ 12 := by
        by_cases h0 : ts U j = 0
        · exact g3 h0
        · have := g4 h0; omega
      by_cases h5 : ts U j = 0 ∧ tg T i = tg U j
      · rw [show (if ts T i = 0 ∧ ts U j = 0 ∧ tg T i = tg U j then (1 : Int32) else 0) = 1 from if_pos ⟨h4, h5.1, h5.2⟩, if_neg (by decide)] at hgo
        rw [if_pos (by rw [h4, h5.1, h5.2])] at hgoc
        obtain ⟨v, I', J', hv, p1, p2, p3, p4, p5⟩ := place_both (F := F) hM h0 h1 ht hu hRM hF ho hq hT hU hTc hUc hTm hUm hi hj hs (by omega) h93 h94
        refine ⟨v, I', J', hv, ?_, ?_, fun b hb => p3 b (by omega) (by omega), zFrJ_of p4, fun h => ?_⟩
        · rw [hgoc, p1, zbd2_s]
          rcases hv with rfl | rfl
          · rw [if_pos rfl]
          · rw [if_neg (by decide)]
        · rw [hgo, p2, zbd2_s]
          rcases hv with rfl | rfl
          · rw [if_pos rfl]
          · rw [if_neg (by decide)]
        · obtain ⟨x1, x2, x3⟩ := p5 h
          refine ⟨fun g hg => ?_, x1, p4.2.2, x2, x3⟩
          have := hfl g hg
          unfold zFl1 at this ⊢
          rw [p3 _ (by omega) (by omega), p3 _ (by omega) (by omega), p3 _ (by omega) (by omega), p3 _ (by omega) (by omega), p4.1 112 (by omega) (by omega), p4.1 113 (by omega) (by omega), p4.1 114 (by omega) (by omega)]
          rcases this with ⟨a, b, c⟩ | ⟨p, j', c', e', a, b⟩
          · refine Or.inl ⟨a, b, fun p hp hp2 => c p ?_ hp2⟩
            have : p ≠ i := fun e => hp2 (by rw [e]; exact h4)
            omega
          · exact Or.inr ⟨p, j', c', e', by omega, b⟩
      · rw [show (if ts T i = 0 ∧ ts U j = 0 ∧ tg T i = tg U j then (1 : Int32) else 0) = 0 from if_neg (fun e => h5 e.2), if_pos rfl] at hgo
        rw [if_neg (fun e => h5 (by have := nI_inj (by omega) (by omega) e; omega))] at hgoc
        exact ⟨0, I, J, Or.inl rfl, hgoc, hgo, zFrC_refl _ _, zFrJ_refl _, fun h => absurd h (by decide)⟩
    · -- a term hole
      rw [if_pos ((ni1 w8).mpr h4)] at hgo hgoc
      rw [if_neg (show ¬ (nI (ts U j) = (-1 : Int32)) from fun e => nI_pos (n := ts U j) (by omega) (by rw [e]; decide))] at hgoc
      by_cases h5 : ts U j = 3
      · rw [if_pos ((ni3 g8).mpr h5)] at hgo hgoc
        exact ⟨0, I, J, Or.inl rfl, hgoc, hgo, zFrC_refl _ _, zFrJ_refl _, fun h => absurd h (by decide)⟩
      · rw [if_neg (fun e => h5 ((ni3 g8).mp e))] at hgo hgoc
        obtain ⟨v, I', J', hv, p1, p2, p3, p4, p5⟩ := leaf_both (F := F) (j := j) (c := tsp U j) (e := 1) hF hM h0 h1 hRM hq hT hU hTc hUc hUm hi (Or.inl h4) hfl n2 ⟨fun _ => ⟨hj, h5, rfl, rfl⟩, fun h => by omega, fun h => by omega⟩ hs
        refine ⟨v, I', J', hv, ?_, ?_, p3, p4, p5⟩
        · rw [hgoc, p1, zbd2_s]
          rcases hv with rfl | rfl
          · rw [if_pos rfl]
          · rw [if_neg (by decide)]
        · rw [hgo, show (1 : Int32) = nI 1 from rfl, p2, zbd2_s]
          rcases hv with rfl | rfl
          · rw [if_pos rfl]
          · rw [if_neg (by decide)]; rfl
    · -- a head hole
      rw [if_neg (fun e => by have := (ni1 w8).mp e; omega), if_pos ((ni2 w8).mpr h4)] at hgo hgoc
      by_cases h5 : ts U j = 0 ∨ ts U j = 2
      · have hgo' : f_X7_matchesNext F zKm J RM 89 (nI o) (nI q) = f_X7_matchesNext_154 F zKm RM 89 J (nI o) (nI q) (nI i) (nI j) 1 := by
          rw [hgo]
          rcases h5 with h5 | h5
          · rw [if_pos ((ni0 g8).mpr h5)]; rfl
          · rw [if_neg (fun e => by have := (ni0 g8).mp e; omega), if_pos ((ni2 g8).mpr h5)]; rfl
        have hgoc' : f_X1_matchNode F K I R m (nI i) (I (m + 9) i) = f_X1_matchNode_111 F K R m I (nI i) (nI j) := by
          rw [hgoc]
          rcases h5 with h5 | h5
          · rw [if_pos ((ni0 g8).mpr h5)]
          · rw [if_neg (fun e => by have := (ni0 g8).mp e; omega), if_pos ((ni2 g8).mpr h5)]
        obtain ⟨v, I1, J1, hv, p1, p2, p3, p4, p5⟩ := fill_both (F := F) (x3 := 1) (j := j) (c := 1) (e := 1) hF hM h0 h1 hRM hq hT hU hTc hUc hUm hi (by omega) hfl n2 ⟨fun h => by omega, fun _ => ⟨hj, h5, rfl, rfl⟩, fun h => by omega⟩ (by rw [if_pos h4])
        have hgo2 : f_X7_matchesNext F zKm J RM 89 (nI o) (nI q) = if v = (0 : Int32) then some ((0 : Int32), J1) else (zbd2 (f_X7_matchesArguments F zKm J1 RM 89 (nI o) (nI i) (nI q) (nI j)) fun v8 I9 => if v8 = (0 : Int32) then some ((0 : Int32), I9) else some ((1 : Int32), I9)) := by
          rw [hgo']
          unfold f_X7_matchesNext_154
          rw [if_neg (by decide), X7_number r0 ho hTm hn hi, zbd_s]
          have p2' : f_X7_fills F zKm J RM 89 (nI q) (nI (tg T i)) (1 : Int32) (nI j) (1 : Int32) (1 : Int32) = some (v, J1) := p2
          rw [p2', zbd2_s]
        have hgoc2 : f_X1_matchNode F K I R m (nI i) (I (m + 9) i) = if v = (0 : Int32) then some ((0 : Int32), I1) else (zbd2 (f_X1_placeArguments F K I1 R m (nI i) (nI j)) fun v5 I6 => if v5 = (0 : Int32) then some ((0 : Int32), I6) else some ((1 : Int32), I6)) := by
          rw [hgoc']
          unfold f_X1_matchNode_111
          have p1' : f_X1_fill F K I R m (nI i) (nI j) (1 : Int32) = some (v, I1) := p1
          rw [p1', zbd2_s]
        have fC : zFrC m I I1 := fun b hb => p3 b (by omega)
        have fJ : zFrJ J J1 := ⟨fun b b1 b2 => p4 b (by omega), fun k _ => by rw [p4 89 (by omega)]⟩
        rcases hv with rfl | rfl
        · rw [if_pos rfl] at hgo2 hgoc2
          exact ⟨0, I1, J1, Or.inl rfl, hgoc2, hgo2, fC, fJ, fun h => absurd h (by decide)⟩
        · rw [if_neg (by decide)] at hgo2 hgoc2
          have hTc1 : zTc K I1 R t T := zTc_row hTc ht (fun b hb => by rcases hM.1 with rfl | rfl <;> exact p3 b (by omega)) (fun _ _ => rfl)
          have hUc1 : zTc K I1 R u U := zTc_row hUc hu (fun b hb => by rcases hM.1 with rfl | rfl <;> exact p3 b (by omega)) (fun _ _ => rfl)
          have e91 : J1 90 = J 90 := p4 90 (by omega)
          have e93 : J1 92 = J 92 := p4 92 (by omega)
          have e94 : J1 93 = J 93 := p4 93 (by omega)
          have e90 : J1 89 = J 89 := p4 89 (by omega)
          obtain ⟨v, I', J', hv, x1, x2, x3, x4, x5⟩ := place_both (F := F) (J := J1) hM h0 h1 ht hu hRM hF ho hq hT hU hTc1 hUc1 (by rw [e91]; exact hTm) (by rw [e91]; exact hUm) hi hj (by rw [e90]; exact hs) (by omega) (by rw [e93]; exact h93) (by rw [e94]; exact h94)
          refine ⟨v, I', J', hv, ?_, ?_, zFrC_trans fC (fun b hb => x3 b (by omega) (by omega)), zFrJ_trans fJ (zFrJ_of x4), fun h => ?_⟩
          · rw [hgoc2, x1, zbd2_s]
            rcases hv with rfl | rfl
            · rw [if_pos rfl]
            · rw [if_neg (by decide)]
          · rw [hgo2, x2, zbd2_s]
            rcases hv with rfl | rfl
            · rw [if_pos rfl]
            · rw [if_neg (by decide)]
          · obtain ⟨y1, y2, y3⟩ := x5 h
            refine ⟨fun g hg => ?_, y1, fun b b1 b2 k hk => by rw [x4.2.2 b b1 b2 k hk, p4 b (by omega)], fun p hp => ⟨by rw [(y2 p hp).1, p3 _ (by omega)], by rw [(y2 p hp).2, p3 _ (by omega)]⟩, y3⟩
            have := p5 rfl g hg
            unfold zFl1 at this ⊢
            rw [x3 _ (by omega) (by omega), x3 _ (by omega) (by omega), x3 _ (by omega) (by omega), x3 _ (by omega) (by omega), x4.1 112 (by omega) (by omega), x4.1 113 (by omega) (by omega), x4.1 114 (by omega) (by omega)]
            exact this
      · rw [if_neg (fun e => h5 (Or.inl ((ni0 g8).mp e))), if_neg (fun e => h5 (Or.inr ((ni2 g8).mp e)))] at hgo hgoc
        unfold f_X7_matchesNext_154 at hgo
        rw [if_pos rfl] at hgo
        exact ⟨0, I, J, Or.inl rfl, hgoc, hgo, zFrC_refl _ _, zFrJ_refl _, fun h => absurd h (by decide)⟩
  · -- a sequence hole
    have hgo := hgo7 _ _ _ _ _ hen
    rw [if_neg (by decide), X7_number r0 ho hTm hn hi, zbd_s] at hgo
    have hle := tSeg_le hU.1 hsg
    obtain ⟨q', x, s1, s2, s3, s4⟩ := hsg
    have hj1 : 1 ≤ j := by rw [s3]; exact Nat.le_trans (by omega) (wk_le (tsp U) x (q' + 1))
    have hrU := (hU.2.1 q' s1).2.1
    obtain ⟨v0, hv0⟩ := X5_sortOf_any (F := F) (j := j) hUc hU (by omega)
    have harg : f_X5_argument F K I R u (nI (j - 1)) (nI e) = some (nI (j + c)) := by
      have := X5_argument (F := F) hUc hU (by omega) (i := j - 1) (m := e) (by omega) (fun k hk => by
        rw [show j - 1 + 1 = j by omega, s3, ← wk_add]
        exact (tc_lt hU.1 s1 (show x + k < tr U q' by omega)).2.2)
      rw [show j - 1 + 1 = j by omega] at this
      rw [this, s4]
      show some (nI (wk (tsp U) e j)) = some (nI (wk (tsp U) (x + e) (q' + 1)))
      rw [wk_add, s3]
    have hgoc : f_X1_matchNode F K I R m (nI i) (I (m + 9) i) = zbd2 (f_X1_fill F K I R m (nI i) (nI j) (nI c)) fun v48 I49 => if v48 = 0 ∨ v48 = 1 then some (v48, I49) else none := by
      rw [n1]
      unfold f_X1_matchNode
      rw [h1, zbd_s, zdr_s u15, zbd_s, hv0, zbd_s, h0, zbd_s, zdr_s k15, zbd_s, X5_sortOf hTc hT hi, zbd_s, hc, if_neg (by decide), if_neg (by decide), if_pos (show nI 3 = (3 : Int32) from rfl), zbd_s, mr3, zbd_s, zdr_s (t := 1) (by rw [k52]), zbd_s, zrd_s (by rw [k52]; show i < 32; omega) (by rw [k52]; decide), zbd_s, zdr_s u15, zbd_s, n2, show (1 : Int32) = nI 1 from rfl, nI_sub hj1, harg, zbd_s, nI_sub (by omega), Nat.add_sub_cancel_left]
    obtain ⟨v, I', J', hv, p1, p2, p3, p4, p5⟩ := leaf_both (F := F) (j := j) (c := c) (e := e) hF hM h0 h1 hRM hq hT hU hTc hUc hUm hi (Or.inr hc) hfl n2 ⟨fun h => by omega, fun h => by omega, fun _ => ⟨q', x, s1, s2, s3, s4⟩⟩ hs
    refine ⟨v, I', J', hv, ?_, ?_, p3, p4, p5⟩
    · rw [hgoc, p1, zbd2_s, if_pos hv]
    · rw [hgo, p2, zbd2_s, if_pos hv]
end ZNX
