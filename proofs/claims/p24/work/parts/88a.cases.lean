/-! Which rule of joining applies, on both sides -/
def zQ (T U : Tm) (i j : Nat) : Int32 := if sqO T i = none ∧ sqO U j = none then 0 else 1
def zE (T U : Tm) (i j : Nat) : Int32 := if tr T i = tr U j ∧ sqO T i = none ∧ sqO U j = none then 1 else 0
def zSy (T U : Tm) (i j : Nat) : Int32 := if ts T i = 0 ∧ ts U j = 0 then 1 else 0
theorem zQ0 {T U : Tm} {i j : Nat} (h : sqO T i = none ∧ sqO U j = none) : zQ T U i j = 0 := if_pos h
theorem zQ1 {T U : Tm} {i j : Nat} (h : ¬ (sqO T i = none ∧ sqO U j = none)) : zQ T U i j = 1 := if_neg h
theorem zE1 {T U : Tm} {i j : Nat} (h : tr T i = tr U j ∧ sqO T i = none ∧ sqO U j = none) : zE T U i j = 1 := if_pos h
theorem zE0 {T U : Tm} {i j : Nat} (h : ¬ (tr T i = tr U j ∧ sqO T i = none ∧ sqO U j = none)) : zE T U i j = 0 := if_neg h
theorem zSy1 {T U : Tm} {i j : Nat} (h : ts T i = 0 ∧ ts U j = 0) : zSy T U i j = 1 := if_pos h
theorem zSy0 {T U : Tm} {i j : Nat} (h : ¬ (ts T i = 0 ∧ ts U j = 0)) : zSy T U i j = 0 := if_neg h
section ZCA
variable {F : Nat} {K : zK} {I : zI} {R : zR} {J : zI} {RM : zR} {t u a b i j p to n D : Nat} {T U : Tm}
theorem j35 (hF : 200 ≤ F) (h2 : R 21 2 = some t) (h3 : R 21 3 = some u) (hT : tWF T) (hU : tWF U) (hTc : zTc K I R t T) (hUc : zTc K I R u U) (hi : i < tn T) (hj : j < tn U) (rec : zI → zR → Nat → Int32 → Int32 → Int32 → Option (Int32 × zI × zR)) (x3 s0 : Int32) : f_X0_joinNodes_35 F K rec 21 I R (nI i) (nI j) x3 s0 = f_X0_joinNodes_99 F K rec 21 I R (nI i) (nI j) x3 s0 (zQ T U i j) (nI (tr T i)) (zE T U i j) := by
  have t15 : (K t).1 = 15 := by rw [hTc.1]
  have u15 : (K u).1 = 15 := by rw [hUc.1]
  have hr := (hT.2.1 i hi).2.1
  have hrU := (hU.2.1 j hj).2.1
  have e64 : ∀ q : Int32, f_X0_joinNodes_64 F K rec 21 I R (nI i) (nI j) x3 s0 q = if nI (tr T i) = nI (tr U j) then (if q = (0 : Int32) then f_X0_joinNodes_99 F K rec 21 I R (nI i) (nI j) x3 s0 q (nI (tr T i)) (1 : Int32) else f_X0_joinNodes_98 F K rec 21 I R (nI i) (nI j) x3 s0 q (nI (tr T i))) else f_X0_joinNodes_98 F K rec 21 I R (nI i) (nI j) x3 s0 q (nI (tr T i)) := fun q => by
    unfold f_X0_joinNodes_64
    rw [h2, zbd_s, zdr_s t15, zbd_s, X5_argumentsOf hTc hT hi, zbd_s, h3, zbd_s, zdr_s u15, zbd_s, X5_argumentsOf hUc hU hj, zbd_s]
  have hq1 : ∀ q : Int32, q = 1 → ¬ (sqO T i = none ∧ sqO U j = none) → f_X0_joinNodes_64 F K rec 21 I R (nI i) (nI j) x3 s0 q = f_X0_joinNodes_99 F K rec 21 I R (nI i) (nI j) x3 s0 (zQ T U i j) (nI (tr T i)) (zE T U i j) := fun q hq hn => by
    subst hq
    rw [e64, zQ1 hn, zE0 (fun h => hn h.2)]
    by_cases h : nI (tr T i) = nI (tr U j)
    · rw [if_pos h, if_neg (by decide)]; rfl
    · rw [if_neg h]; rfl
  unfold f_X0_joinNodes_35
  rw [h2, zbd_s, zdr_s t15, zbd_s, X5_sequencePlace hTc hT (by omega) hi, zbd_s, h3, zbd_s, zdr_s u15, zbd_s, X5_sequencePlace hUc hU (by omega) hj, zbd_s]
  cases hs : sqO T i with
  | some g =>
    have hg := (sqO_lt hs).1
    have := hq1 1 rfl (by rw [hs]; exact fun h => by cases h.1)
    show (if (0 : Int32) ≤ nI g then _ else _) = _
    rw [if_pos (nI_pos' (by omega))]
    exact this
  | none =>
    show (if (0 : Int32) ≤ -1 then _ else _) = _
    rw [if_neg (by decide)]
    cases hs2 : sqO U j with
    | some g =>
      have hg := (sqO_lt hs2).1
      have := hq1 1 rfl (by rw [hs2]; exact fun h => by cases h.2)
      show (if nI g < (0 : Int32) then _ else _) = _
      rw [if_neg (nI_pos (by omega))]
      exact this
    | none =>
      show (if (-1 : Int32) < 0 then _ else _) = _
      rw [if_pos (by decide), e64, zQ0 ⟨hs, hs2⟩]
      by_cases h : tr T i = tr U j
      · rw [if_pos (show nI (tr T i) = nI (tr U j) by rw [h]), if_pos rfl, zE1 ⟨h, hs, hs2⟩]
      · rw [if_neg (fun e => h (nI_inj (by omega) (by omega) e)), zE0 (fun e => h e.1)]; rfl
theorem j139 (hF : 200 ≤ F) (hRM : zRM RM) (ha : a + 97 ≤ 5751) (hb : b + 97 ≤ 5751) (hT : tWF T) (hU : tWF U) (hTm : zTm (J 90) a T) (hUm : zTm (J 90) b U) (hi : i < tn T) (hj : j < tn U) (h93 : ∀ y, y < tn T → J 92 y = nI (tsp T y)) (h94 : ∀ y, y < tn U → J 93 y = nI (tsp U y)) (x3 : Int32) : (zbd (f_X7_arguments F zKm J RM 89 (nI a) (nI i)) fun v110 => zbd (some (RM 89 5)) fun o112 => zbd (f_X7_sequenceOf F zKm J RM 89 (nI a) (nI i) o112) fun v113 => if v113 = (-9 : Int32) then (zbd (some (RM 89 6)) fun o116 => zbd (f_X7_sequenceOf F zKm J RM 89 (nI b) (nI j) o116) fun v117 => if v117 = (-9 : Int32) then f_X7_joinsNext_139 F zKm RM 89 J (nI a) (nI b) x3 (nI i) (nI j) v110 (0 : Int32) else f_X7_joinsNext_134 F zKm RM 89 J (nI a) (nI b) x3 (nI i) (nI j) v110) else f_X7_joinsNext_134 F zKm RM 89 J (nI a) (nI b) x3 (nI i) (nI j) v110) = f_X7_joinsNext_163 F zKm RM 89 J (nI a) (nI b) x3 (nI i) (nI j) (nI (tr T i)) (zQ T U i j) (zE T U i j) := by
  have r0 : RM 89 0 = some 90 := hRM 89 0 (by decide) (by decide) (by decide)
  have r5 : RM 89 5 = some 92 := hRM 89 5 (by decide) (by decide) (by decide)
  have r6 : RM 89 6 = some 93 := hRM 89 6 (by decide) (by decide) (by decide)
  have k93 : zKm 92 = (1, 32) := rfl
  have k94 : zKm 93 = (1, 32) := rfl
  have hr := (hT.2.1 i hi).2.1
  have hrU := (hU.2.1 j hj).2.1
  have e139 : ∀ q : Int32, f_X7_joinsNext_139 F zKm RM 89 J (nI a) (nI b) x3 (nI i) (nI j) (nI (tr T i)) q = if nI (tr T i) = nI (tr U j) then (if q = (0 : Int32) then f_X7_joinsNext_163 F zKm RM 89 J (nI a) (nI b) x3 (nI i) (nI j) (nI (tr T i)) q (1 : Int32) else f_X7_joinsNext_162 F zKm RM 89 J (nI a) (nI b) x3 (nI i) (nI j) (nI (tr T i)) q) else f_X7_joinsNext_162 F zKm RM 89 J (nI a) (nI b) x3 (nI i) (nI j) (nI (tr T i)) q := fun q => by
    unfold f_X7_joinsNext_139
    rw [X7_arguments r0 hb hUm hU.1.2.1 hj, zbd_s]
  have hq1 : ¬ (sqO T i = none ∧ sqO U j = none) → f_X7_joinsNext_134 F zKm RM 89 J (nI a) (nI b) x3 (nI i) (nI j) (nI (tr T i)) = f_X7_joinsNext_163 F zKm RM 89 J (nI a) (nI b) x3 (nI i) (nI j) (nI (tr T i)) (zQ T U i j) (zE T U i j) := fun hn => by
    unfold f_X7_joinsNext_134
    rw [e139, zQ1 hn, zE0 (fun h => hn h.2)]
    by_cases h : nI (tr T i) = nI (tr U j)
    · rw [if_pos h, if_neg (by decide)]; rfl
    · rw [if_neg h]; rfl
  rw [X7_arguments r0 ha hTm hT.1.2.1 hi, zbd_s, r5, zbd_s, X7_sequenceOf r0 ha hTm k93 hT (by omega) h93 hi, zbd_s, r6, zbd_s, X7_sequenceOf r0 hb hUm k94 hU (by omega) h94 hj, zbd_s]
  cases hs : sqO T i with
  | some g =>
    have hg := (sqO_lt hs).1
    have := hq1 (by rw [hs]; exact fun h => by cases h.1)
    show (if nI g = (-9 : Int32) then _ else _) = _
    rw [if_neg (nim9 (by omega))]
    exact this
  | none =>
    show (if (-9 : Int32) = -9 then _ else _) = _
    rw [if_pos rfl]
    cases hs2 : sqO U j with
    | some g =>
      have hg := (sqO_lt hs2).1
      have := hq1 (by rw [hs2]; exact fun h => by cases h.2)
      show (if nI g = (-9 : Int32) then _ else _) = _
      rw [if_neg (nim9 (by omega))]
      exact this
    | none =>
      show (if (-9 : Int32) = -9 then _ else _) = _
      rw [if_pos rfl, e139, zQ0 ⟨hs, hs2⟩]
      by_cases h : tr T i = tr U j
      · rw [if_pos (show nI (tr T i) = nI (tr U j) by rw [h]), if_pos rfl, zE1 ⟨h, hs, hs2⟩]
      · rw [if_neg (fun e => h (nI_inj (by omega) (by omega) e)), zE0 (fun e => h e.1)]; rfl
/-- the four rules -/
theorem node_cases (hF : 200 ≤ F) (hRM : zRM RM) (h2 : R 21 2 = some t) (h3 : R 21 3 = some u) (h4 : R 21 4 = some p) (hp15 : (K p).1 = 15) (ha : a + 97 ≤ 5751) (hb : b + 97 ≤ 5751) (hto : to + 97 ≤ 5751) (hT : tWF T) (hU : tWF U) (hTc : zTc K I R t T) (hUc : zTc K I R u U) (hTm : zTm (J 90) a T) (hUm : zTm (J 90) b U) (hi : i < tn T) (hj : j < tn U) (h93 : ∀ y, y < tn T → J 92 y = nI (tsp T y)) (h94 : ∀ y, y < tn U → J 93 y = nI (tsp U y)) (hn : J 90 to = nI n) (hD : D ≤ 7) (f0 : I 21 0 = if J 90 776 = 1 then 1 else 0) (f1 : I 21 1 = if J 90 777 = 1 then 1 else 0) {s : Nat} (hs : J 89 29 = nI s) (hs2 : s < 160) {y z : Int32} (hen : zEn J s (0, nI i, y, nI j, z)) (rec : zI → zR → Nat → Int32 → Int32 → Int32 → Option (Int32 × zI × zR)) :
    ((ts T i = 0 ∧ ts U j = 0 ∧ tg T i = tg U j) ∧ (tr T i = tr U j ∧ sqO T i = none ∧ sqO U j = none) ∧ g_X0_joinNodes F K rec I R 21 (nI i) (nI j) (nI D) = (zbd2 (f_X5_append F K I R p (nI (tg T i)) (nI (tr T i))) fun v64 I65 => if v64 = (0 : Int32) then some ((0 : Int32), I65, R) else (zbd3 (f_X0_joinRow F K rec I65 R 21 (nI (i + 1)) (nI (j + 1)) (nI (tr T i)) (nI (D + 1))) fun v68 I69 R70 => if v68 = (0 : Int32) then some ((0 : Int32), I69, R70) else some ((1 : Int32), I69, R70))) ∧ f_X7_joinsNext F zKm J RM 89 (nI a) (nI b) (nI to) = (zbd (f_X7_writes F zKm J RM 89 (nI to) (nI n) (0 : Int32) (nI (tg T i)) (nI (tr T i))) fun I80 => zbd (f_X7_pushesEven F zKm I80 RM 89 (nI i) (nI j) (nI (tr T i))) fun I82 => some ((1 : Int32), I82))) ∨
    ((ts T i = 0 ∧ ts U j = 0 ∧ tg T i = tg U j) ∧ ¬ (tr T i = tr U j ∧ sqO T i = none ∧ sqO U j = none) ∧ g_X0_joinNodes F K rec I R 21 (nI i) (nI j) (nI D) = (zbd3 (f_X0_joinAligned F K rec I R 21 (nI i) (nI j) (nI D)) fun v32 I33 R34 => if v32 = 0 ∨ v32 = 1 then some (v32, I33, R34) else none) ∧ f_X7_joinsNext F zKm J RM 89 (nI a) (nI b) (nI to) = (zbd2 (f_X7_pushesAligned F zKm J RM 89 (nI a) (nI i) (nI b) (nI j)) fun v54 I55 => zbd (f_X7_writes F zKm I55 RM 89 (nI to) (nI n) (0 : Int32) (nI (tg T i)) v54) fun I57 => some ((1 : Int32), I57))) ∨
    ((ts T i = 0 ∧ ts U j = 0) ∧ (tr T i = tr U j ∧ sqO T i = none ∧ sqO U j = none) ∧ 1 ≤ tr T i ∧ g_X0_joinNodes F K rec I R 21 (nI i) (nI j) (nI D) = (zbd3 (f_X0_appendHole F K I R 21 (nI 2) (nI (tr T i)) (nI i) (nI 1) (nI j) (nI 1)) fun v22 I23 R24 => if v22 = (0 : Int32) then some ((0 : Int32), I23, R24) else (zbd3 (f_X0_joinRow F K rec I23 R24 21 (nI (i + 1)) (nI (j + 1)) (nI (tr T i)) (nI (D + 1))) fun v27 I28 R29 => if v27 = (0 : Int32) then some ((0 : Int32), I28, R29) else some ((1 : Int32), I28, R29))) ∧ f_X7_joinsNext F zKm J RM 89 (nI a) (nI b) (nI to) = (zbd2 (f_X7_holeFor F zKm J RM 89 (nI 2) (nI a) (nI i) (nI 1) (nI b) (nI j) (nI 1)) fun v34 I35 => zbd (zrd zKm I35 90 (nI to)) fun v41 => zbd (f_X7_writes F zKm I35 RM 89 (nI to) v41 (nI 2) v34 (nI (tr T i))) fun I42 => zbd (f_X7_pushesEven F zKm I42 RM 89 (nI i) (nI j) (nI (tr T i))) fun I44 => if v34 = (-9 : Int32) then some ((0 : Int32), I44) else some ((1 : Int32), I44))) ∨
    (g_X0_joinNodes F K rec I R 21 (nI i) (nI j) (nI D) = (zbd3 (f_X0_appendHole F K I R 21 (nI 1) (nI 0) (nI i) (nI (tsp T i)) (nI j) (nI (tsp U j))) fun v13 I14 R15 => if v13 = 0 ∨ v13 = 1 then some (v13, I14, R15) else none) ∧ f_X7_joinsNext F zKm J RM 89 (nI a) (nI b) (nI to) = (zbd2 (f_X7_holeFor F zKm J RM 89 (nI 1) (nI a) (nI i) (nI (tsp T i)) (nI b) (nI j) (nI (tsp U j))) fun v11 I12 => zbd (zrd zKm I12 90 (nI to)) fun v18 => zbd (f_X7_writes F zKm I12 RM 89 (nI to) v18 (nI 1) v11 (nI 0)) fun I19 => if v11 = (-9 : Int32) then some ((0 : Int32), I19) else some ((1 : Int32), I19))) := by
  have r0 : RM 89 0 = some 90 := hRM 89 0 (by decide) (by decide) (by decide)
  have r5 : RM 89 5 = some 92 := hRM 89 5 (by decide) (by decide) (by decide)
  have r6 : RM 89 6 = some 93 := hRM 89 6 (by decide) (by decide) (by decide)
  have r24 : RM 89 24 = some 107 := hRM 89 24 (by decide) (by decide) (by decide)
  have r25 : RM 89 25 = some 108 := hRM 89 25 (by decide) (by decide) (by decide)
  have r26 : RM 89 26 = some 109 := hRM 89 26 (by decide) (by decide) (by decide)
  have k93 : zKm 92 = (1, 32) := rfl
  have k94 : zKm 93 = (1, 32) := rfl
  have k108 : zKm 107 = (2, 160) := rfl
  have k109 : zKm 108 = (1, 160) := rfl
  have k110 : zKm 109 = (1, 160) := rfl
  have t15 : (K t).1 = 15 := by rw [hTc.1]
  have u15 : (K u).1 = 15 := by rw [hUc.1]
  have hr := (hT.2.1 i hi).2.1
  have hrU := (hU.2.1 j hj).2.1
  have hn1 := hT.1.2.1
  have hn2 := hU.1.2.1
  obtain ⟨w1, -, w3, -⟩ := hT.2.1 i hi
  obtain ⟨v1, -, v3, -⟩ := hU.2.1 j hj
  obtain ⟨g1, g2, -, g4, -⟩ := hen
  simp only at g1 g2 g4
  have rdto : zrd zKm J 90 (nI to) = some (nI n) := by rw [zrd_s (by rw [zKm91]; show to < 5751; omega) (by decide), hn]
  have e254 : f_X0_joinNodes_254 F K rec 21 I R (nI i) (nI j) = (zbd3 (f_X0_appendHole F K I R 21 (nI 1) (nI 0) (nI i) (nI (tsp T i)) (nI j) (nI (tsp U j))) fun v13 I14 R15 => if v13 = 0 ∨ v13 = 1 then some (v13, I14, R15) else none) := by
    unfold f_X0_joinNodes_254
    rw [h2, zbd_s, zdr_s t15, zbd_s, X5_spanOf hTc hT hi, zbd_s, h3, zbd_s, zdr_s u15, zbd_s, X5_spanOf hUc hU hj, zbd_s]
    rfl
  have e398 : f_X7_joinsNext_398 F zKm RM 89 J (nI a) (nI b) (nI to) (nI i) (nI j) = (zbd2 (f_X7_holeFor F zKm J RM 89 (nI 1) (nI a) (nI i) (nI (tsp T i)) (nI b) (nI j) (nI (tsp U j))) fun v11 I12 => zbd (zrd zKm I12 90 (nI to)) fun v18 => zbd (f_X7_writes F zKm I12 RM 89 (nI to) v18 (nI 1) v11 (nI 0)) fun I19 => if v11 = (-9 : Int32) then some ((0 : Int32), I19) else some ((1 : Int32), I19)) := by
    unfold f_X7_joinsNext_398
    rw [r5, zbd_s, zdr_s (t := 1) (by rw [k93]), zbd_s, zrd_s (by rw [k93]; show i < 32; omega) (by rw [k93]; decide), zbd_s, h93 i hi, r6, zbd_s, zdr_s (t := 1) (by rw [k94]), zbd_s, zrd_s (by rw [k94]; show j < 32; omega) (by rw [k94]; decide), zbd_s, h94 j hj]
    simp only [r0, zbd_s, zd91]
    rfl
  have eJ : f_X7_joinsNext F zKm J RM 89 (nI a) (nI b) (nI to) = f_X7_joinsNext_190 F zKm RM 89 J (nI a) (nI b) (nI to) (nI i) (nI j) (nI (tr T i)) (zQ T U i j) (zE T U i j) (zSy T U i j) := by
    unfold f_X7_joinsNext
    rw [r25, zbd_s, zdr_s (t := 1) (by rw [k109]), zbd_s, hs, zrd_s (by rw [k109]; exact hs2) (by rw [k109]; decide), zbd_s, g2, r26, zbd_s, zdr_s (t := 1) (by rw [k110]), zbd_s, zrd_s (by rw [k110]; exact hs2) (by rw [k110]; decide), zbd_s, g4, r24, zbd_s, zdr_s (t := 2) (by rw [k108]), zbd_s, zrd_s (by rw [k108]; exact hs2) (by rw [k108]; decide), zbd_s, g1, if_pos rfl, j139 hF hRM ha hb hT hU hTm hUm hi hj h93 h94]
    unfold f_X7_joinsNext_163
    rw [X7_sort r0 ha hTm hn1 hi, zbd_s, X7_sort r0 hb hUm hn2 hj, zbd_s]
    by_cases c1 : ts T i = 0
    · rw [if_pos ((ni0 (by omega)).mpr c1)]
      by_cases c2 : ts U j = 0
      · rw [if_pos ((ni0 (by omega)).mpr c2), zSy1 ⟨c1, c2⟩]
      · rw [if_neg (fun e => c2 ((ni0 (by omega)).mp e)), zSy0 (fun e => c2 e.2)]; rfl
    · rw [if_neg (fun e => c1 ((ni0 (by omega)).mp e)), zSy0 (fun e => c1 e.1)]; rfl
  have eC : g_X0_joinNodes F K rec I R 21 (nI i) (nI j) (nI D) = f_X0_joinNodes_99 F K rec 21 I R (nI i) (nI j) (nI D) (zSy T U i j) (zQ T U i j) (nI (tr T i)) (zE T U i j) := by
    unfold g_X0_joinNodes
    rw [if_pos (show nI D ≤ (7 : Int32) from nI_le (b := 7) hD (by decide)), h2, zbd_s, zdr_s t15, zbd_s, X5_sortOf hTc hT hi, zbd_s, h3, zbd_s, zdr_s u15, zbd_s, X5_sortOf hUc hU hj, zbd_s]
    by_cases c1 : ts T i = 0
    · rw [if_pos ((ni0 (by omega)).mpr c1)]
      by_cases c2 : ts U j = 0
      · rw [if_pos ((ni0 (by omega)).mpr c2), zSy1 ⟨c1, c2⟩]
        exact j35 hF h2 h3 hT hU hTc hUc hi hj rec _ _
      · rw [if_neg (fun e => c2 ((ni0 (by omega)).mp e)), zSy0 (fun e => c2 e.2)]
        exact j35 hF h2 h3 hT hU hTc hUc hi hj rec _ _
    · rw [if_neg (fun e => c1 ((ni0 (by omega)).mp e)), zSy0 (fun e => c1 e.1)]
      exact j35 hF h2 h3 hT hU hTc hUc hi hj rec _ _
  have hal := X7_isAlike (F := F) (J := J) hRM ha hb hT hU hTm hUm hi hj
  have z10 : ¬ ((1 : Int32) = 0) := by decide
  by_cases hS : ts T i = 0 ∧ ts U j = 0
  · have hd := w3 hS.1
    have hd2 := v3 hS.2
    rw [zSy1 hS] at eJ eC
    by_cases hA : tg T i = tg U j
    · rw [if_pos ⟨hS.1, hS.2, hA⟩] at hal
      by_cases hE : tr T i = tr U j ∧ sqO T i = none ∧ sqO U j = none
      · refine Or.inl ⟨⟨hS.1, hS.2, hA⟩, hE, ?_, ?_⟩
        · rw [eC, zE1 hE]
          unfold f_X0_joinNodes_99
          rw [if_neg z10, h2, zbd_s, zdr_s t15, zbd_s, X5_headOf hTc hT hi, zbd_s, h3, zbd_s, zdr_s u15, zbd_s, X5_headOf hUc hU hj, zbd_s, if_pos (by rw [hS.1, hS.2, hA]), if_neg z10, h4, zbd_s, zbd_s, zdr_s t15, zbd_s, X5_headOf hTc hT hi, zbd_s, zdr_s hp15, zbd_s, hS.1, show 0 * 16 + tg T i = tg T i by omega, nI_1, nI_1, nI_1]
        · rw [eJ, zE1 hE]
          unfold f_X7_joinsNext_190
          rw [hal, zbd_s, if_neg z10, if_neg z10, r0, zbd_s, zd91, zbd_s, rdto, zbd_s, X7_number r0 ha hTm hn1 hi, zbd_s]
      · have eC2 : ∀ (hx : I 21 1 = 1 ∨ ¬ (sqO T i = none ∧ sqO U j = none)), g_X0_joinNodes F K rec I R 21 (nI i) (nI j) (nI D) = (zbd3 (f_X0_joinAligned F K rec I R 21 (nI i) (nI j) (nI D)) fun v32 I33 R34 => if v32 = 0 ∨ v32 = 1 then some (v32, I33, R34) else none) := fun hx => by
          rw [eC, zE0 hE]
          unfold f_X0_joinNodes_99
          rw [if_neg z10, h2, zbd_s, zdr_s t15, zbd_s, X5_headOf hTc hT hi, zbd_s, h3, zbd_s, zdr_s u15, zbd_s, X5_headOf hUc hU hj, zbd_s, if_pos (by rw [hS.1, hS.2, hA]), if_pos rfl]
          rcases hx with hx | hx
          · rw [hx, if_neg z10]; rfl
          · rw [zQ1 hx, if_neg z10]
            by_cases h : I 21 1 = 0
            · rw [if_pos h]; rfl
            · rw [if_neg h]; rfl
        have eJ2 : f_X7_joinsNext F zKm J RM 89 (nI a) (nI b) (nI to) = if J 90 777 = (1 : Int32) then f_X7_joinsNext_273 F zKm RM 89 J (nI a) (nI b) (nI to) (nI i) (nI j) else if (zQ T U i j) = (0 : Int32) then f_X7_joinsNext_304 F zKm RM 89 J (nI a) (nI b) (nI to) (nI i) (nI j) (nI (tr T i)) 0 1 else f_X7_joinsNext_273 F zKm RM 89 J (nI a) (nI b) (nI to) (nI i) (nI j) := by
          rw [eJ, zE0 hE]
          unfold f_X7_joinsNext_190
          rw [hal, zbd_s, if_neg z10, if_pos rfl]
          unfold f_X7_joinsNext_243
          rw [hal, zbd_s, if_neg z10, r0, zbd_s, zd91, zbd_s, show zrd zKm J 90 (777 : Int32) = some (J 90 777) from zrd_s (j := 777) (by decide) (by decide), zbd_s]
        have e273 : f_X7_joinsNext_273 F zKm RM 89 J (nI a) (nI b) (nI to) (nI i) (nI j) = (zbd2 (f_X7_pushesAligned F zKm J RM 89 (nI a) (nI i) (nI b) (nI j)) fun v54 I55 => zbd (f_X7_writes F zKm I55 RM 89 (nI to) (nI n) (0 : Int32) (nI (tg T i)) v54) fun I57 => some ((1 : Int32), I57)) := by
          unfold f_X7_joinsNext_273
          rw [r0, zbd_s, zd91, zbd_s, rdto, zbd_s, X7_number r0 ha hTm hn1 hi, zbd_s]
        by_cases h7 : J 90 777 = 1
        · refine Or.inr (Or.inl ⟨⟨hS.1, hS.2, hA⟩, hE, eC2 (Or.inl (by rw [f1, if_pos h7])), ?_⟩)
          rw [eJ2, if_pos h7, e273]
        · by_cases hQ : sqO T i = none ∧ sqO U j = none
          · refine Or.inr (Or.inr (Or.inr ⟨?_, ?_⟩))
            · rw [eC, zE0 hE]
              unfold f_X0_joinNodes_99
              rw [if_neg z10, h2, zbd_s, zdr_s t15, zbd_s, X5_headOf hTc hT hi, zbd_s, h3, zbd_s, zdr_s u15, zbd_s, X5_headOf hUc hU hj, zbd_s, if_pos (by rw [hS.1, hS.2, hA]), if_pos rfl, f1, if_neg h7, if_pos rfl, zQ0 hQ, if_pos rfl, e254]
            · rw [eJ2, if_neg h7, zQ0 hQ, if_pos rfl]
              unfold f_X7_joinsNext_304
              rw [if_neg z10, hal, zbd_s, if_neg z10, e398]
          · refine Or.inr (Or.inl ⟨⟨hS.1, hS.2, hA⟩, hE, eC2 (Or.inr hQ), ?_⟩)
            rw [eJ2, if_neg h7, zQ1 hQ, if_neg z10, e273]
    · rw [if_neg (fun h => hA h.2.2)] at hal
      have eC3 : g_X0_joinNodes F K rec I R 21 (nI i) (nI j) (nI D) = f_X0_joinNodes_194 F K rec 21 I R (nI i) (nI j) (nI D) 1 (nI (tr T i)) (zE T U i j) := by
        rw [eC]
        unfold f_X0_joinNodes_99
        rw [if_neg z10, h2, zbd_s, zdr_s t15, zbd_s, X5_headOf hTc hT hi, zbd_s, h3, zbd_s, zdr_s u15, zbd_s, X5_headOf hUc hU hj, zbd_s, if_neg (fun e => hA (by have := nI_inj (by omega) (by omega) e; omega))]
      have eJ3 : f_X7_joinsNext F zKm J RM 89 (nI a) (nI b) (nI to) = f_X7_joinsNext_304 F zKm RM 89 J (nI a) (nI b) (nI to) (nI i) (nI j) (nI (tr T i)) (zE T U i j) 1 := by
        rw [eJ]
        unfold f_X7_joinsNext_190
        rw [hal, zbd_s, if_pos rfl]
        unfold f_X7_joinsNext_243
        rw [hal, zbd_s, if_pos rfl]
      have e776 : zrd zKm J 90 (776 : Int32) = some (J 90 776) := zrd_s (j := 776) (by decide) (by decide)
      by_cases h6 : J 90 776 = 1
      · have c0 : I 21 0 = 1 := by rw [f0, if_pos h6]
        by_cases hE : tr T i = tr U j ∧ sqO T i = none ∧ sqO U j = none
        · rw [zE1 hE] at eC3 eJ3
          by_cases hm : 1 ≤ tr T i
          · refine Or.inr (Or.inr (Or.inl ⟨hS, hE, hm, ?_, ?_⟩))
            · rw [eC3]
              unfold f_X0_joinNodes_194
              rw [if_neg z10, c0, if_neg z10, if_neg (nI_nle (by omega) (by omega)), if_neg z10, nI_1, nI_1, nI_1]
              rfl
            · rw [eJ3]
              unfold f_X7_joinsNext_304
              rw [if_neg z10, hal, zbd_s, if_pos rfl, r0, zbd_s, zd91, zbd_s, e776, zbd_s, if_pos h6, if_neg z10, if_neg (nI_nle (by omega) (by omega))]
              simp only [zbd_s, zd91]
              rfl
          · refine Or.inr (Or.inr (Or.inr ⟨?_, ?_⟩))
            · rw [eC3]
              unfold f_X0_joinNodes_194
              rw [if_neg z10, c0, if_neg z10, if_pos (show nI (tr T i) ≤ (0 : Int32) from nI_le (b := 0) (by omega) (by decide)), e254]
            · rw [eJ3]
              unfold f_X7_joinsNext_304
              rw [if_neg z10, hal, zbd_s, if_pos rfl, r0, zbd_s, zd91, zbd_s, e776, zbd_s, if_pos h6, if_neg z10, if_pos (show nI (tr T i) ≤ (0 : Int32) from nI_le (b := 0) (by omega) (by decide)), e398]
        · rw [zE0 hE] at eC3 eJ3
          refine Or.inr (Or.inr (Or.inr ⟨?_, ?_⟩))
          · rw [eC3]
            unfold f_X0_joinNodes_194
            rw [if_neg z10, c0, if_neg z10, if_pos rfl, e254]
            by_cases hm : nI (tr T i) ≤ (0 : Int32)
            · rw [if_pos hm]
            · rw [if_neg hm]
          · rw [eJ3]
            unfold f_X7_joinsNext_304
            rw [if_neg z10, hal, zbd_s, if_pos rfl, r0, zbd_s, zd91, zbd_s, e776, zbd_s, if_pos h6, if_pos rfl, e398]
      · have c0 : I 21 0 = 0 := by rw [f0, if_neg h6]
        refine Or.inr (Or.inr (Or.inr ⟨?_, ?_⟩))
        · rw [eC3]
          unfold f_X0_joinNodes_194
          rw [if_neg z10, c0, if_pos rfl, e254]
        · rw [eJ3]
          unfold f_X7_joinsNext_304
          rw [if_neg z10, hal, zbd_s, if_pos rfl, r0, zbd_s, zd91, zbd_s, e776, zbd_s, if_neg h6, e398]
  · rw [zSy0 hS] at eJ eC
    rw [if_neg (fun h => hS ⟨h.1, h.2.1⟩)] at hal
    refine Or.inr (Or.inr (Or.inr ⟨?_, ?_⟩))
    · rw [eC]
      unfold f_X0_joinNodes_99
      rw [if_pos rfl]
      unfold f_X0_joinNodes_194
      rw [if_pos rfl, e254]
    · rw [eJ]
      unfold f_X7_joinsNext_190
      rw [hal, zbd_s, if_pos rfl]
      unfold f_X7_joinsNext_243
      rw [hal, zbd_s, if_pos rfl]
      unfold f_X7_joinsNext_304
      rw [if_pos rfl, e398]
end ZCA
