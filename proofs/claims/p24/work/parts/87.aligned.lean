/-! Aligned arguments on both sides -/
section ZAL
variable {F : Nat} {K : zK} {I : zI} {R : zR} {J : zI} {RM : zR} {t u a b i j s : Nat} {T U : Tm}
theorem X0_sameSymbol (h2 : R 21 2 = some t) (h3 : R 21 3 = some u) (hT : tWF T) (hU : tWF U) (hTc : zTc K I R t T) (hUc : zTc K I R u U) (hi : i < tn T) (hj : j < tn U) : f_X0_sameSymbol F K I R 21 (nI i) (nI j) = some (if ts T i = 0 ∧ ts U j = 0 ∧ tg T i = tg U j then 1 else 0) := by
  obtain ⟨a1, a2, a3, a4, -⟩ := hT.2.1 i hi
  obtain ⟨b1, b2, b3, b4, -⟩ := hU.2.1 j hj
  have t2 : tg U j ≤ 12 := by
    by_cases h0 : ts U j = 0
    · exact b3 h0
    · have := b4 h0; omega
  unfold f_X0_sameSymbol
  rw [h2, zbd_s, zdr_s (t := 15) (by rw [hTc.1]), zbd_s, X5_sortOf hTc hT hi, zbd_s, zbd_s, zdr_s (t := 15) (by rw [hTc.1]), zbd_s, X5_headOf hTc hT hi, zbd_s, h3, zbd_s, zdr_s (t := 15) (by rw [hUc.1]), zbd_s, X5_headOf hUc hU hj, zbd_s]
  by_cases c1 : ts T i = 0
  · have t1 := a3 c1
    rw [if_pos ((ni0 (by omega)).mpr c1)]
    by_cases c2 : ts U j = 0 ∧ tg T i = tg U j
    · rw [if_pos (by rw [c1, c2.1, c2.2]), if_pos ⟨c1, c2.1, c2.2⟩]
    · rw [if_neg (fun e => c2 (by have := nI_inj (by omega) (by omega) e; omega)), if_neg (fun e => c2 e.2)]
  · rw [if_neg (fun e => c1 ((ni0 (by omega)).mp e)), if_neg (fun e => c1 e.1)]
/-- how many arguments are alike from the first one on -/
theorem front_both (hF : 200 ≤ F) (h2 : R 21 2 = some t) (h3 : R 21 3 = some u) (hRM : zRM RM) (ha : a + 97 ≤ 5751) (hb : b + 97 ≤ 5751) (hT : tWF T) (hU : tWF U) (hTc : zTc K I R t T) (hUc : zTc K I R u U) (hTm : zTm (J 90) a T) (hUm : zTm (J 90) b U) (hi : i < tn T) (hj : j < tn U) (h93 : ∀ y, y < tn T → J 92 y = nI (tsp T y)) (h94 : ∀ y, y < tn U → J 93 y = nI (tsp U y)) (rec : zI → zR → Nat → Int32 → Int32 → Int32 → Option (Int32 × zI × zR)) (x3 : Int32) {w : Nat} (hw : w = min (tr T i) (tr U j)) : ∀ (d x f f' : Nat), x + d = w → d < f → d < f' →
    ∃ P, x ≤ P ∧ P ≤ w ∧ f_X0_joinAligned_32 F K rec 21 f I R (nI i) (nI j) x3 (nI (tr T i)) (nI (tr U j)) (nI w) (nI x) = f_X0_joinAligned_72 F K rec 21 I R (nI i) (nI j) x3 (nI (tr T i)) (nI (tr U j)) (nI w) (nI P) ∧ f_X7_pushesAligned_20 F zKm RM 89 f' J (nI a) (nI i) (nI b) (nI j) (nI (tr T i)) (nI (tr U j)) (nI x) = f_X7_pushesAligned_72 F zKm RM 89 J (nI a) (nI i) (nI b) (nI j) (nI (tr T i)) (nI (tr U j)) (nI P) ∧ ∀ y, x ≤ y → y < P → ts T (tc T i y) = 0 ∧ ts U (tc U j y) = 0 := by
  have k93 : zKm 92 = (1, 32) := rfl
  have k94 : zKm 93 = (1, 32) := rfl
  have r5 : RM 89 5 = some 92 := hRM 89 5 (by decide) (by decide) (by decide)
  have r6 : RM 89 6 = some 93 := hRM 89 6 (by decide) (by decide) (by decide)
  have hr := (hT.2.1 i hi).2.1
  have hrU := (hU.2.1 j hj).2.1
  intro d
  induction d with
  | zero =>
    intro x f f' hx hf hf'
    obtain ⟨f, rfl⟩ : ∃ g, f = g + 1 := ⟨f - 1, by omega⟩
    obtain ⟨f', rfl⟩ : ∃ g, f' = g + 1 := ⟨f' - 1, by omega⟩
    refine ⟨x, Nat.le_refl _, by omega, ?_, ?_, fun y h1 h2 => by omega⟩
    · show g_X0_joinAligned_32 F K rec 21 _ I R (nI i) (nI j) x3 (nI (tr T i)) (nI (tr U j)) (nI w) (nI x) = _
      unfold g_X0_joinAligned_32
      rw [if_pos (nI_le (by omega) (by omega))]
    · show g_X7_pushesAligned_20 F zKm RM 89 _ J (nI a) (nI i) (nI b) (nI j) (nI (tr T i)) (nI (tr U j)) (nI x) = _
      unfold g_X7_pushesAligned_20
      by_cases h : tr T i ≤ x
      · rw [if_pos (nI_le h (by omega))]
      · rw [if_neg (nI_ge (by omega) (by omega)), if_pos (nI_le (by omega) (by omega))]
  | succ d ih =>
    intro x f f' hx hf hf'
    obtain ⟨f, rfl⟩ : ∃ g, f = g + 1 := ⟨f - 1, by omega⟩
    obtain ⟨f', rfl⟩ : ∃ g, f' = g + 1 := ⟨f' - 1, by omega⟩
    obtain ⟨c1, c2, c3⟩ := tc_lt hT.1 hi (show x < tr T i by omega)
    obtain ⟨d1, d2, d3⟩ := tc_lt hU.1 hj (show x < tr U j by omega)
    have a1 : f_X5_argument F K I R t (nI i) (nI x) = some (nI (tc T i x)) := X5_argument hTc hT (by omega) (by omega) (fun k hk => (tc_lt hT.1 hi (show k < tr T i by omega)).2.2)
    have a2 : f_X5_argument F K I R u (nI j) (nI x) = some (nI (tc U j x)) := X5_argument hUc hU (by omega) (by omega) (fun k hk => (tc_lt hU.1 hj (show k < tr U j by omega)).2.2)
    have a3 : f_X7_child F zKm J RM 89 (nI i) (nI x) (some 92) = some (nI (tc T i x)) := X7_child k93 hT (by omega) h93 (by omega) (fun k hk => (tc_lt hT.1 hi (show k < tr T i by omega)).2.2)
    have a4 : f_X7_child F zKm J RM 89 (nI j) (nI x) (some 93) = some (nI (tc U j x)) := X7_child k94 hU (by omega) h94 (by omega) (fun k hk => (tc_lt hU.1 hj (show k < tr U j by omega)).2.2)
    have eC : f_X0_joinAligned_32 F K rec 21 (f + 1) I R (nI i) (nI j) x3 (nI (tr T i)) (nI (tr U j)) (nI w) (nI x) = if (if ts T (tc T i x) = 0 ∧ ts U (tc U j x) = 0 ∧ tg T (tc T i x) = tg U (tc U j x) then (1 : Int32) else 0) = 0 then f_X0_joinAligned_72 F K rec 21 I R (nI i) (nI j) x3 (nI (tr T i)) (nI (tr U j)) (nI w) (nI x) else f_X0_joinAligned_32 F K rec 21 f I R (nI i) (nI j) x3 (nI (tr T i)) (nI (tr U j)) (nI w) (nI (x + 1)) := by
      show g_X0_joinAligned_32 F K rec 21 _ I R (nI i) (nI j) x3 (nI (tr T i)) (nI (tr U j)) (nI w) (nI x) = _
      unfold g_X0_joinAligned_32
      rw [if_neg (nI_ge (by omega) (by omega)), h2, zbd_s, zdr_s (t := 15) (by rw [hTc.1]), zbd_s, a1, zbd_s, h3, zbd_s, zdr_s (t := 15) (by rw [hUc.1]), zbd_s, a2, zbd_s, X0_sameSymbol h2 h3 hT hU hTc hUc c3 d3, zbd_s, nI_1]
    have eJ : f_X7_pushesAligned_20 F zKm RM 89 (f' + 1) J (nI a) (nI i) (nI b) (nI j) (nI (tr T i)) (nI (tr U j)) (nI x) = if (if ts T (tc T i x) = 0 ∧ ts U (tc U j x) = 0 ∧ tg T (tc T i x) = tg U (tc U j x) then (1 : Int32) else 0) = 0 then f_X7_pushesAligned_72 F zKm RM 89 J (nI a) (nI i) (nI b) (nI j) (nI (tr T i)) (nI (tr U j)) (nI x) else f_X7_pushesAligned_20 F zKm RM 89 f' J (nI a) (nI i) (nI b) (nI j) (nI (tr T i)) (nI (tr U j)) (nI (x + 1)) := by
      show g_X7_pushesAligned_20 F zKm RM 89 _ J (nI a) (nI i) (nI b) (nI j) (nI (tr T i)) (nI (tr U j)) (nI x) = _
      unfold g_X7_pushesAligned_20
      rw [if_neg (nI_ge (by omega) (by omega)), if_neg (nI_ge (by omega) (by omega)), r5, zbd_s, a3, zbd_s, r6, zbd_s, a4, zbd_s, X7_isAlike hRM ha hb hT hU hTm hUm c3 d3, zbd_s, nI_1]
    by_cases hal : ts T (tc T i x) = 0 ∧ ts U (tc U j x) = 0 ∧ tg T (tc T i x) = tg U (tc U j x)
    · obtain ⟨P, p1, p2, p3, p4, p5⟩ := ih (x + 1) f f' (by omega) (by omega) (by omega)
      rw [if_pos hal, if_neg (by decide)] at eC eJ
      refine ⟨P, by omega, p2, eC.trans p3, eJ.trans p4, fun y h1 h2 => ?_⟩
      by_cases hy : y = x
      · rw [hy]; exact ⟨hal.1, hal.2.1⟩
      · exact p5 y (by omega) h2
    · rw [if_neg hal, if_pos rfl] at eC eJ
      exact ⟨x, Nat.le_refl _, by omega, eC, eJ, fun y h1 h2 => by omega⟩
/-- and from the last one on -/
theorem back_both (hF : 200 ≤ F) (h2 : R 21 2 = some t) (h3 : R 21 3 = some u) (hRM : zRM RM) (ha : a + 97 ≤ 5751) (hb : b + 97 ≤ 5751) (hT : tWF T) (hU : tWF U) (hTc : zTc K I R t T) (hUc : zTc K I R u U) (hTm : zTm (J 90) a T) (hUm : zTm (J 90) b U) (hi : i < tn T) (hj : j < tn U) (h93 : ∀ y, y < tn T → J 92 y = nI (tsp T y)) (h94 : ∀ y, y < tn U → J 93 y = nI (tsp U y)) (rec : zI → zR → Nat → Int32 → Int32 → Int32 → Option (Int32 × zI × zR)) (x3 : Int32) {w P : Nat} (hw : w = min (tr T i) (tr U j)) (hP : P ≤ w) : ∀ (d x f f' : Nat), P + x + d = w → d < f → d < f' →
    ∃ Q, x ≤ Q ∧ P + Q ≤ w ∧ f_X0_joinAligned_75 F K rec 21 f I R (nI i) (nI j) x3 (nI (tr T i)) (nI (tr U j)) (nI w) (nI P) (nI x) = f_X0_joinAligned_128 F K rec 21 I R (nI i) (nI j) x3 (nI (tr T i)) (nI (tr U j)) (nI P) (nI Q) ∧ f_X7_pushesAligned_75 F zKm RM 89 f' J (nI a) (nI i) (nI b) (nI j) (nI (tr T i)) (nI (tr U j)) (nI P) (nI x) = f_X7_pushesAligned_143 F zKm RM 89 J (nI i) (nI j) (nI (tr T i)) (nI (tr U j)) (nI P) (nI Q) ∧ ∀ y, x ≤ y → y < Q → ts T (tc T i (tr T i - 1 - y)) = 0 ∧ ts U (tc U j (tr U j - 1 - y)) = 0 := by
  have k93 : zKm 92 = (1, 32) := rfl
  have k94 : zKm 93 = (1, 32) := rfl
  have r5 : RM 89 5 = some 92 := hRM 89 5 (by decide) (by decide) (by decide)
  have r6 : RM 89 6 = some 93 := hRM 89 6 (by decide) (by decide) (by decide)
  have hr := (hT.2.1 i hi).2.1
  have hrU := (hU.2.1 j hj).2.1
  intro d
  induction d with
  | zero =>
    intro x f f' hx hf hf'
    obtain ⟨f, rfl⟩ : ∃ g, f = g + 1 := ⟨f - 1, by omega⟩
    obtain ⟨f', rfl⟩ : ∃ g, f' = g + 1 := ⟨f' - 1, by omega⟩
    refine ⟨x, Nat.le_refl _, by omega, ?_, ?_, fun y h1 h2 => by omega⟩
    · show g_X0_joinAligned_75 F K rec 21 _ I R (nI i) (nI j) x3 (nI (tr T i)) (nI (tr U j)) (nI w) (nI P) (nI x) = _
      unfold g_X0_joinAligned_75
      rw [nI_add, if_pos (nI_le (by omega) (by omega))]
    · show g_X7_pushesAligned_75 F zKm RM 89 _ J (nI a) (nI i) (nI b) (nI j) (nI (tr T i)) (nI (tr U j)) (nI P) (nI x) = _
      unfold g_X7_pushesAligned_75
      rw [nI_add]
      by_cases h : tr T i ≤ P + x
      · rw [if_pos (nI_le h (by omega))]
      · rw [if_neg (nI_ge (by omega) (by omega)), if_pos (nI_le (by omega) (by omega))]
  | succ d ih =>
    intro x f f' hx hf hf'
    obtain ⟨f, rfl⟩ : ∃ g, f = g + 1 := ⟨f - 1, by omega⟩
    obtain ⟨f', rfl⟩ : ∃ g, f' = g + 1 := ⟨f' - 1, by omega⟩
    obtain ⟨c1, c2, c3⟩ := tc_lt hT.1 hi (show tr T i - 1 - x < tr T i by omega)
    obtain ⟨d1, d2, d3⟩ := tc_lt hU.1 hj (show tr U j - 1 - x < tr U j by omega)
    have a1 : f_X5_argument F K I R t (nI i) (nI (tr T i - 1 - x)) = some (nI (tc T i (tr T i - 1 - x))) := X5_argument hTc hT (by omega) (by omega) (fun k hk => (tc_lt hT.1 hi (show k < tr T i by omega)).2.2)
    have a2 : f_X5_argument F K I R u (nI j) (nI (tr U j - 1 - x)) = some (nI (tc U j (tr U j - 1 - x))) := X5_argument hUc hU (by omega) (by omega) (fun k hk => (tc_lt hU.1 hj (show k < tr U j by omega)).2.2)
    have a3 : f_X7_child F zKm J RM 89 (nI i) (nI (tr T i - 1 - x)) (some 92) = some (nI (tc T i (tr T i - 1 - x))) := X7_child k93 hT (by omega) h93 (by omega) (fun k hk => (tc_lt hT.1 hi (show k < tr T i by omega)).2.2)
    have a4 : f_X7_child F zKm J RM 89 (nI j) (nI (tr U j - 1 - x)) (some 93) = some (nI (tc U j (tr U j - 1 - x))) := X7_child k94 hU (by omega) h94 (by omega) (fun k hk => (tc_lt hU.1 hj (show k < tr U j by omega)).2.2)
    have s1 : nI (tr T i) - (1 : Int32) - nI x = nI (tr T i - 1 - x) := by rw [nl1, nI_sub (by omega), nI_sub (by omega)]
    have s2 : nI (tr U j) - (1 : Int32) - nI x = nI (tr U j - 1 - x) := by rw [nl1, nI_sub (by omega), nI_sub (by omega)]
    have eC : f_X0_joinAligned_75 F K rec 21 (f + 1) I R (nI i) (nI j) x3 (nI (tr T i)) (nI (tr U j)) (nI w) (nI P) (nI x) = if (if ts T (tc T i (tr T i - 1 - x)) = 0 ∧ ts U (tc U j (tr U j - 1 - x)) = 0 ∧ tg T (tc T i (tr T i - 1 - x)) = tg U (tc U j (tr U j - 1 - x)) then (1 : Int32) else 0) = 0 then f_X0_joinAligned_128 F K rec 21 I R (nI i) (nI j) x3 (nI (tr T i)) (nI (tr U j)) (nI P) (nI x) else f_X0_joinAligned_75 F K rec 21 f I R (nI i) (nI j) x3 (nI (tr T i)) (nI (tr U j)) (nI w) (nI P) (nI (x + 1)) := by
      show g_X0_joinAligned_75 F K rec 21 _ I R (nI i) (nI j) x3 (nI (tr T i)) (nI (tr U j)) (nI w) (nI P) (nI x) = _
      unfold g_X0_joinAligned_75
      rw [nI_add, if_neg (nI_ge (by omega) (by omega)), h2, zbd_s, zdr_s (t := 15) (by rw [hTc.1]), zbd_s, s1, a1, zbd_s, h3, zbd_s, zdr_s (t := 15) (by rw [hUc.1]), zbd_s, s2, a2, zbd_s, X0_sameSymbol h2 h3 hT hU hTc hUc c3 d3, zbd_s, nI_1]
    have eJ : f_X7_pushesAligned_75 F zKm RM 89 (f' + 1) J (nI a) (nI i) (nI b) (nI j) (nI (tr T i)) (nI (tr U j)) (nI P) (nI x) = if (if ts T (tc T i (tr T i - 1 - x)) = 0 ∧ ts U (tc U j (tr U j - 1 - x)) = 0 ∧ tg T (tc T i (tr T i - 1 - x)) = tg U (tc U j (tr U j - 1 - x)) then (1 : Int32) else 0) = 0 then f_X7_pushesAligned_143 F zKm RM 89 J (nI i) (nI j) (nI (tr T i)) (nI (tr U j)) (nI P) (nI x) else f_X7_pushesAligned_75 F zKm RM 89 f' J (nI a) (nI i) (nI b) (nI j) (nI (tr T i)) (nI (tr U j)) (nI P) (nI (x + 1)) := by
      show g_X7_pushesAligned_75 F zKm RM 89 _ J (nI a) (nI i) (nI b) (nI j) (nI (tr T i)) (nI (tr U j)) (nI P) (nI x) = _
      unfold g_X7_pushesAligned_75
      rw [nI_add, if_neg (nI_ge (by omega) (by omega)), if_neg (nI_ge (by omega) (by omega)), r5, zbd_s, s1, a3, zbd_s, r6, zbd_s, s2, a4, zbd_s, X7_isAlike hRM ha hb hT hU hTm hUm c3 d3, zbd_s, nI_1]
    by_cases hal : ts T (tc T i (tr T i - 1 - x)) = 0 ∧ ts U (tc U j (tr U j - 1 - x)) = 0 ∧ tg T (tc T i (tr T i - 1 - x)) = tg U (tc U j (tr U j - 1 - x))
    · obtain ⟨Q, p1, p2, p3, p4, p5⟩ := ih (x + 1) f f' (by omega) (by omega) (by omega)
      rw [if_pos hal, if_neg (by decide)] at eC eJ
      refine ⟨Q, by omega, p2, eC.trans p3, eJ.trans p4, fun y h1 h2 => ?_⟩
      by_cases hy : y = x
      · rw [hy]; exact ⟨hal.1, hal.2.1⟩
      · exact p5 y (by omega) h2
    · rw [if_neg hal, if_pos rfl] at eC eJ
      exact ⟨x, Nat.le_refl _, by omega, eC, eJ, fun y h1 h2 => by omega⟩
theorem even276 (hRM : zRM RM) (hF : 100 ≤ F) (hT : tWF T) (hU : tWF U) (hi : i < tn T) (hj : j < tn U) (P Q : Nat) : ∀ (x f s : Nat) (J : zI), J 89 29 = nI s → s + x ≤ 160 → x < f → x ≤ tr T i → x ≤ tr U j → (∀ y, y < tn T → J 92 y = nI (tsp T y)) → (∀ y, y < tn U → J 93 y = nI (tsp U y)) →
    ∃ J', f_X7_pushesAligned_276 F zKm RM 89 f J (nI i) (nI j) (nI P) (nI Q) (nI x + (-1)) = some (nI (P + 1 + Q), J') ∧ zFr s J J' ∧ J' 89 29 = nI (s + x) ∧ ∀ y, y < x → zEn J' (s + (x - 1 - y)) (0, nI (tc T i y), 0, nI (tc U j y), 0) := by
  have r5 : RM 89 5 = some 92 := hRM 89 5 (by decide) (by decide) (by decide)
  have r6 : RM 89 6 = some 93 := hRM 89 6 (by decide) (by decide) (by decide)
  have k93 : zKm 92 = (1, 32) := rfl
  have k94 : zKm 93 = (1, 32) := rfl
  have hr := (hT.2.1 i hi).2.1
  have hrU := (hU.2.1 j hj).2.1
  intro x
  induction x with
  | zero =>
    intro f s J hs hs2 hf _ _ _ _
    obtain ⟨f, rfl⟩ : ∃ g, f = g + 1 := ⟨f - 1, by omega⟩
    refine ⟨J, ?_, zFr_refl _ _, hs, fun y hy => by omega⟩
    show g_X7_pushesAligned_276 F zKm RM 89 _ J (nI i) (nI j) (nI P) (nI Q) (nI 0 + (-1)) = _
    unfold g_X7_pushesAligned_276
    rw [if_pos (by decide), nI_1, nI_add]
  | succ x ih =>
    intro f s J hs hs2 hf hx hx2 h93 h94
    obtain ⟨f, rfl⟩ : ∃ g, f = g + 1 := ⟨f - 1, by omega⟩
    obtain ⟨p1, p2, p3⟩ := zPush_all J s (0, nI (tc T i x), 0, nI (tc U j x), 0)
    obtain ⟨J', q1, q3, q4, q5⟩ := ih f (s + 1) _ p2 (by omega) (by omega) (by omega) (by omega) (fun y hy => by rw [p1.1 92 (by decide) (by decide)]; exact h93 y hy) (fun y hy => by rw [p1.1 93 (by decide) (by decide)]; exact h94 y hy)
    have c1 : f_X7_child F zKm J RM 89 (nI i) (nI x) (some 92) = some (nI (tc T i x)) := X7_child k93 hT hF h93 (by omega) (fun k hk => (tc_lt hT.1 hi (show k < tr T i by omega)).2.2)
    have c2 : f_X7_child F zKm J RM 89 (nI j) (nI x) (some 93) = some (nI (tc U j x)) := X7_child k94 hU hF h94 (by omega) (fun k hk => (tc_lt hU.1 hj (show k < tr U j by omega)).2.2)
    refine ⟨J', ?_, zFr_trans p1 q3 (by omega), by rw [q4]; congr 1; omega, fun y hy => ?_⟩
    · show g_X7_pushesAligned_276 F zKm RM 89 _ J (nI i) (nI j) (nI P) (nI Q) (nI (x + 1) + (-1)) = _
      unfold g_X7_pushesAligned_276
      rw [nI_m1, if_neg (nI_pos (by omega)), r5, zbd_s, c1, zbd_s, r6, zbd_s, c2, zbd_s, X7_pushes hRM (by omega) hs (Or.inl rfl), zbd_s]
      exact q1
    · by_cases hy2 : y = x
      · subst hy2
        rw [show s + (y + 1 - 1 - y) = s by omega]
        exact zEn_fr p3 q3 (by omega)
      · have := q5 y (by omega)
        rw [show s + 1 + (x - 1 - y) = s + (x + 1 - 1 - y) by omega] at this
        exact this
/-- the pushes of aligned arguments: the last Q, the gap, the first P -/
theorem gap146 (hRM : zRM RM) (hF : 100 ≤ F) (hT : tWF T) (hU : tWF U) (hi : i < tn T) (hj : j < tn U) {P Q : Nat} (h1 : P + Q ≤ tr T i) (h2 : P + Q ≤ tr U j) : ∀ (d x f s : Nat) (J : zI), x + d = Q → J 89 29 = nI s → s + d + 1 + P ≤ 160 → d < f → (∀ y, y < tn T → J 92 y = nI (tsp T y)) → (∀ y, y < tn U → J 93 y = nI (tsp U y)) →
    ∃ J', f_X7_pushesAligned_146 F zKm RM 89 f J (nI i) (nI j) (nI (tr T i)) (nI (tr U j)) (nI P) (nI Q) (nI x) = some (nI (P + 1 + Q), J') ∧ zFr s J J' ∧ J' 89 29 = nI (s + d + 1 + P) ∧ (∀ z, z < d → zEn J' (s + (d - 1 - z)) (0, nI (tc T i (tr T i - Q + z)), 0, nI (tc U j (tr U j - Q + z)), 0)) ∧ zEn J' (s + d) (1, nI (tc T i P), nI (tc T i (tr T i - Q) - tc T i P), nI (tc U j P), nI (tc U j (tr U j - Q) - tc U j P)) ∧ ∀ y, y < P → zEn J' (s + d + 1 + (P - 1 - y)) (0, nI (tc T i y), 0, nI (tc U j y), 0) := by
  have r5 : RM 89 5 = some 92 := hRM 89 5 (by decide) (by decide) (by decide)
  have r6 : RM 89 6 = some 93 := hRM 89 6 (by decide) (by decide) (by decide)
  have k93 : zKm 92 = (1, 32) := rfl
  have k94 : zKm 93 = (1, 32) := rfl
  have hr := (hT.2.1 i hi).2.1
  have hrU := (hU.2.1 j hj).2.1
  have cT : ∀ (J : zI) k, (∀ y, y < tn T → J 92 y = nI (tsp T y)) → k ≤ tr T i → f_X7_child F zKm J RM 89 (nI i) (nI k) (some 92) = some (nI (tc T i k)) := fun J k h93 hk => X7_child k93 hT hF h93 (by omega) (fun k hk => (tc_lt hT.1 hi (show k < tr T i by omega)).2.2)
  have cU : ∀ (J : zI) k, (∀ y, y < tn U → J 93 y = nI (tsp U y)) → k ≤ tr U j → f_X7_child F zKm J RM 89 (nI j) (nI k) (some 93) = some (nI (tc U j k)) := fun J k h94 hk => X7_child k94 hU hF h94 (by omega) (fun k hk => (tc_lt hU.1 hj (show k < tr U j by omega)).2.2)
  intro d
  induction d with
  | zero =>
    intro x f s J hx hs hs2 hf h93 h94
    obtain ⟨f, rfl⟩ : ∃ g, f = g + 1 := ⟨f - 1, by omega⟩
    obtain ⟨p1, p2, p3⟩ := zPush_all J s (1, nI (tc T i P), nI (tc T i (tr T i - Q) - tc T i P), nI (tc U j P), nI (tc U j (tr U j - Q) - tc U j P))
    obtain ⟨J', q1, q3, q4, q5⟩ := even276 (F := F) hRM hF hT hU hi hj P Q P F (s + 1) _ p2 (by omega) (by omega) (by omega) (by omega) (fun y hy => by rw [p1.1 92 (by decide) (by decide)]; exact h93 y hy) (fun y hy => by rw [p1.1 93 (by decide) (by decide)]; exact h94 y hy)
    refine ⟨J', ?_, zFr_trans p1 q3 (by omega), by rw [q4], fun z hz => by omega, zEn_fr p3 q3 (by omega), fun y hy => by
      have := q5 y hy
      rw [show s + 0 + 1 + (P - 1 - y) = s + 1 + (P - 1 - y) by omega]
      exact this⟩
    show g_X7_pushesAligned_146 F zKm RM 89 _ J (nI i) (nI j) (nI (tr T i)) (nI (tr U j)) (nI P) (nI Q) (nI x) = _
    unfold g_X7_pushesAligned_146
    rw [if_pos (nI_le (by omega) (by omega)), r5, zbd_s, cT J P h93 (by omega), zbd_s, r6, zbd_s, cU J P h94 (by omega), zbd_s, zbd_s, nI_sub (show Q ≤ tr T i by omega), cT J _ h93 (by omega), zbd_s, zbd_s, nI_sub (show Q ≤ tr U j by omega), cU J _ h94 (by omega), zbd_s, nI_sub (tc_mono (show P ≤ tr T i - Q by omega)), nI_sub (tc_mono (show P ≤ tr U j - Q by omega)), X7_pushes hRM (by omega) hs (Or.inr rfl), zbd_s, Int32.sub_eq_add_neg, zbd_s]
    exact q1
  | succ d ih =>
    intro x f s J hx hs hs2 hf h93 h94
    obtain ⟨f, rfl⟩ : ∃ g, f = g + 1 := ⟨f - 1, by omega⟩
    obtain ⟨p1, p2, p3⟩ := zPush_all J s (0, nI (tc T i (tr T i - 1 - x)), 0, nI (tc U j (tr U j - 1 - x)), 0)
    obtain ⟨J', q1, q2, q3, q4, q5, q6⟩ := ih (x + 1) f (s + 1) _ (by omega) p2 (by omega) (by omega) (fun y hy => by rw [p1.1 92 (by decide) (by decide)]; exact h93 y hy) (fun y hy => by rw [p1.1 93 (by decide) (by decide)]; exact h94 y hy)
    have s1 : nI (tr T i) - (1 : Int32) - nI x = nI (tr T i - 1 - x) := by rw [nl1, nI_sub (by omega), nI_sub (by omega)]
    have s2 : nI (tr U j) - (1 : Int32) - nI x = nI (tr U j - 1 - x) := by rw [nl1, nI_sub (by omega), nI_sub (by omega)]
    refine ⟨J', ?_, zFr_trans p1 q2 (by omega), by rw [q3]; congr 1; omega, fun z hz => ?_, by rw [show s + (d + 1) = s + 1 + d by omega]; exact q5, fun y hy => by rw [show s + (d + 1) + 1 = s + 1 + d + 1 by omega]; exact q6 y hy⟩
    · show g_X7_pushesAligned_146 F zKm RM 89 _ J (nI i) (nI j) (nI (tr T i)) (nI (tr U j)) (nI P) (nI Q) (nI x) = _
      unfold g_X7_pushesAligned_146
      rw [if_neg (nI_ge (by omega) (by omega)), r5, zbd_s, s1, cT J _ h93 (by omega), zbd_s, r6, zbd_s, s2, cU J _ h94 (by omega), zbd_s, X7_pushes hRM (by omega) hs (Or.inl rfl), zbd_s, nI_1]
      exact q1
    · by_cases hy : z < d
      · have := q4 z hy
        rw [show s + 1 + (d - 1 - z) = s + (d + 1 - 1 - z) by omega] at this
        exact this
      · have e1 : z = d := by omega
        subst e1
        rw [show s + (z + 1 - 1 - z) = s by omega, show tr T i - Q + z = tr T i - 1 - x by omega, show tr U j - Q + z = tr U j - 1 - x by omega]
        exact zEn_fr p3 q2 (by omega)
end ZAL
