/-! isLeast(): both sides' answers -/
/-- nothing laid at hole x -/
def lOk (J : zI) (x : Nat) : Prop := J 116 x = -9 ∧ J 118 x = 0 ∧ J 119 x = 0 ∧ J 120 x = 0 ∧ ∀ y, y < 10 → J 115 (10 * x + y) = 0
section ZLE
variable {F : Nat} {K : zK} {J J' : zI} {RM : zR} {q m m' u u' h g o : Nat} {T A B : Tm} {I : zI} {R : zR} {fs fj fc fe gj gc ge : Nat → Nat}
theorem least231 (hRM : zRM RM) (hh : h < 10) (k167 : zI → Int32 → Int32 → Option (Int32 × zI)) : ∀ (d g f : Nat) (x5 : Int32), g + d = 10 → d < f → (x5 = 0 ∨ x5 = 1) → ∃ v : Int32, (v = 0 ∨ v = 1) ∧ (v = 1 ↔ x5 = 1 ∧ ∀ y, g ≤ y → y < 10 → J 115 (10 * h + y) = 0) ∧ f_X7_isLeast_231 F zKm RM 89 k167 f J x5 (nI h) (nI g) = k167 J v (nI (h + 1)) := by
  have r33 : RM 89 33 = some 115 := hRM 89 33 (by decide) (by decide) (by decide)
  intro d
  induction d with
  | zero =>
    intro g f x5 hd hf hx
    obtain ⟨f, rfl⟩ : ∃ y, f = y + 1 := ⟨f - 1, by omega⟩
    obtain rfl : g = 10 := by omega
    refine ⟨x5, hx, ⟨fun e => ⟨e, fun y y1 y2 => by omega⟩, fun e => e.1⟩, ?_⟩
    show g_X7_isLeast_231 F zKm RM 89 _ _ J x5 (nI h) (nI 10) = _
    unfold g_X7_isLeast_231
    rw [if_pos (by decide), nI_1]
  | succ d ih =>
    intro g f x5 hd hf hx
    obtain ⟨f, rfl⟩ : ∃ y, f = y + 1 := ⟨f - 1, by omega⟩
    have hgo : f_X7_isLeast_231 F zKm RM 89 k167 (f + 1) J x5 (nI h) (nI g) = if x5 = (0 : Int32) then f_X7_isLeast_231 F zKm RM 89 k167 f J 0 (nI h) (nI (g + 1)) else if J 115 (10 * h + g) = (0 : Int32) then f_X7_isLeast_231 F zKm RM 89 k167 f J 1 (nI h) (nI (g + 1)) else f_X7_isLeast_231 F zKm RM 89 k167 f J 0 (nI h) (nI (g + 1)) := by
      show g_X7_isLeast_231 F zKm RM 89 _ (f_X7_isLeast_231 F zKm RM 89 k167 f) J x5 (nI h) (nI g) = _
      unfold g_X7_isLeast_231 f_X7_isLeast_263 f_X7_isLeast_264
      rw [if_neg (show ¬ ((10 : Int32) ≤ nI g) from nI_ge (b := 10) (by omega) (by decide)), r33, zbd_s, zdr_s (t := 2) rfl, zbd_s, show ((10 : Int32) * nI h) + nI g = nI (10 * h + g) by rw [nl10, nI_mul, nI_add], zrd_s (by show _ < 100; omega) (by decide), zbd_s, nI_1]
    have step : ∀ b : Int32, (b = 0 ∨ b = 1) → (b = 1 ↔ x5 = 1 ∧ J 115 (10 * h + g) = 0) → f_X7_isLeast_231 F zKm RM 89 k167 (f + 1) J x5 (nI h) (nI g) = f_X7_isLeast_231 F zKm RM 89 k167 f J b (nI h) (nI (g + 1)) → ∃ v : Int32, (v = 0 ∨ v = 1) ∧ (v = 1 ↔ x5 = 1 ∧ ∀ y, g ≤ y → y < 10 → J 115 (10 * h + y) = 0) ∧ f_X7_isLeast_231 F zKm RM 89 k167 (f + 1) J x5 (nI h) (nI g) = k167 J v (nI (h + 1)) := fun b b1 b2 b3 => by
      obtain ⟨v, v1, v2, v3⟩ := ih (g + 1) f b (by omega) (by omega) b1
      refine ⟨v, v1, ?_, by rw [b3, v3]⟩
      rw [v2, b2]
      constructor
      · rintro ⟨⟨a1, a2⟩, a3⟩
        refine ⟨a1, fun y y1 y2 => ?_⟩
        by_cases hy : y = g
        · rw [hy]; exact a2
        · exact a3 y (by omega) y2
      · rintro ⟨a1, a2⟩
        exact ⟨⟨a1, a2 g (Nat.le_refl _) (by omega)⟩, fun y y1 y2 => a2 y (by omega) y2⟩
    rcases hx with rfl | rfl
    · exact step 0 (Or.inl rfl) ⟨fun e => absurd e (by decide), fun e => absurd e.1 (by decide)⟩ (by rw [hgo, if_pos rfl])
    · by_cases h0 : J 115 (10 * h + g) = 0
      · exact step 1 (Or.inr rfl) ⟨fun _ => ⟨rfl, h0⟩, fun _ => rfl⟩ (by rw [hgo, if_neg (by decide), if_pos h0])
      · exact step 0 (Or.inl rfl) ⟨fun e => absurd e (by decide), fun e => absurd e.2 h0⟩ (by rw [hgo, if_neg (by decide), if_neg h0])
theorem least167 (hRM : zRM RM) (hF : 200 ≤ F) : ∀ (d h f : Nat) (x5 : Int32), h + d = 10 → d < f → (x5 = 0 ∨ x5 = 1) → ∃ v : Int32, (v = 0 ∨ v = 1) ∧ (v = 1 ↔ x5 = 1 ∧ ∀ x, h ≤ x → x < 10 → lOk J x) ∧ f_X7_isLeast_167 F zKm RM 89 f J x5 (nI h) = some (v, J) := by
  have r34 : RM 89 34 = some 116 := hRM 89 34 (by decide) (by decide) (by decide)
  have r36 : RM 89 36 = some 118 := hRM 89 36 (by decide) (by decide) (by decide)
  have r37 : RM 89 37 = some 119 := hRM 89 37 (by decide) (by decide) (by decide)
  have r38 : RM 89 38 = some 120 := hRM 89 38 (by decide) (by decide) (by decide)
  intro d
  induction d with
  | zero =>
    intro h f x5 hd hf hx
    obtain ⟨f, rfl⟩ : ∃ y, f = y + 1 := ⟨f - 1, by omega⟩
    obtain rfl : h = 10 := by omega
    refine ⟨x5, hx, ⟨fun e => ⟨e, fun y y1 y2 => by omega⟩, fun e => e.1⟩, ?_⟩
    show g_X7_isLeast_167 F zKm RM 89 _ J x5 (nI 10) = _
    unfold g_X7_isLeast_167
    rw [if_pos (by decide)]
    rcases hx with rfl | rfl <;> rfl
  | succ d ih =>
    intro h f x5 hd hf hx
    obtain ⟨f, rfl⟩ : ∃ y, f = y + 1 := ⟨f - 1, by omega⟩
    have hh : h < 10 := by omega
    have e226 : ∀ b : Int32, f_X7_isLeast_226 F zKm RM 89 (f_X7_isLeast_167 F zKm RM 89 f) J (nI h) b = f_X7_isLeast_231 F zKm RM 89 (f_X7_isLeast_167 F zKm RM 89 f) F J b (nI h) (nI 0) := fun b => rfl
    have hgo : f_X7_isLeast_167 F zKm RM 89 (f + 1) J x5 (nI h) = if x5 = (0 : Int32) then f_X7_isLeast_226 F zKm RM 89 (f_X7_isLeast_167 F zKm RM 89 f) J (nI h) 0 else if J 116 h = (-9 : Int32) then (if J 118 h = (0 : Int32) then (if J 119 h = (0 : Int32) then (if J 120 h = (0 : Int32) then f_X7_isLeast_226 F zKm RM 89 (f_X7_isLeast_167 F zKm RM 89 f) J (nI h) 1 else f_X7_isLeast_226 F zKm RM 89 (f_X7_isLeast_167 F zKm RM 89 f) J (nI h) 0) else f_X7_isLeast_226 F zKm RM 89 (f_X7_isLeast_167 F zKm RM 89 f) J (nI h) 0) else f_X7_isLeast_226 F zKm RM 89 (f_X7_isLeast_167 F zKm RM 89 f) J (nI h) 0) else f_X7_isLeast_226 F zKm RM 89 (f_X7_isLeast_167 F zKm RM 89 f) J (nI h) 0 := by
      show g_X7_isLeast_167 F zKm RM 89 (f_X7_isLeast_167 F zKm RM 89 f) J x5 (nI h) = _
      unfold g_X7_isLeast_167 f_X7_isLeast_225
      rw [if_neg (show ¬ ((10 : Int32) ≤ nI h) from nI_ge (b := 10) (by omega) (by decide)), r34, r36, r37, r38]
      simp only [zbd_s, zdr_s (show (zKm 116).1 = 1 from rfl), zdr_s (show (zKm 118).1 = 2 from rfl), zdr_s (show (zKm 119).1 = 2 from rfl), zdr_s (show (zKm 120).1 = 2 from rfl), zrd_s (K := zKm) (I := J) (a := 116) (j := h) (by show h < 10; exact hh) (by decide), zrd_s (K := zKm) (I := J) (a := 118) (j := h) (by show h < 10; exact hh) (by decide), zrd_s (K := zKm) (I := J) (a := 119) (j := h) (by show h < 10; exact hh) (by decide), zrd_s (K := zKm) (I := J) (a := 120) (j := h) (by show h < 10; exact hh) (by decide)]
    have step : ∀ b : Int32, (b = 0 ∨ b = 1) → (b = 1 ↔ x5 = 1 ∧ J 116 h = -9 ∧ J 118 h = 0 ∧ J 119 h = 0 ∧ J 120 h = 0) → f_X7_isLeast_167 F zKm RM 89 (f + 1) J x5 (nI h) = f_X7_isLeast_226 F zKm RM 89 (f_X7_isLeast_167 F zKm RM 89 f) J (nI h) b → ∃ v : Int32, (v = 0 ∨ v = 1) ∧ (v = 1 ↔ x5 = 1 ∧ ∀ x, h ≤ x → x < 10 → lOk J x) ∧ f_X7_isLeast_167 F zKm RM 89 (f + 1) J x5 (nI h) = some (v, J) := fun b b1 b2 b3 => by
      obtain ⟨w, w1, w2, w3⟩ := least231 (F := F) (J := J) hRM hh (f_X7_isLeast_167 F zKm RM 89 f) 10 0 F b (by omega) (by omega) b1
      obtain ⟨v, v1, v2, v3⟩ := ih (h + 1) f w (by omega) (by omega) w1
      refine ⟨v, v1, ?_, by rw [b3, e226, w3, v3]⟩
      rw [v2, w2, b2]
      constructor
      · rintro ⟨⟨⟨a1, a2, a3, a4, a5⟩, a6⟩, a7⟩
        refine ⟨a1, fun y y1 y2 => ?_⟩
        by_cases hy : y = h
        · rw [hy]; exact ⟨a2, a3, a4, a5, fun z hz => a6 z (Nat.zero_le _) hz⟩
        · exact a7 y (by omega) y2
      · rintro ⟨a1, a2⟩
        obtain ⟨c1, c2, c3, c4, c5⟩ := a2 h (Nat.le_refl _) hh
        exact ⟨⟨⟨a1, c1, c2, c3, c4⟩, fun z _ hz => c5 z hz⟩, fun y y1 y2 => a2 y (by omega) y2⟩
    rcases hx with rfl | rfl
    · exact step 0 (Or.inl rfl) ⟨fun e => absurd e (by decide), fun e => absurd e.1 (by decide)⟩ (by rw [hgo, if_pos rfl])
    · rw [if_neg (by decide)] at hgo
      by_cases h1 : J 116 h = -9
      · rw [if_pos h1] at hgo
        by_cases h2 : J 118 h = 0
        · rw [if_pos h2] at hgo
          by_cases h3 : J 119 h = 0
          · rw [if_pos h3] at hgo
            by_cases h4 : J 120 h = 0
            · rw [if_pos h4] at hgo
              exact step 1 (Or.inr rfl) ⟨fun _ => ⟨rfl, h1, h2, h3, h4⟩, fun _ => rfl⟩ hgo
            · rw [if_neg h4] at hgo
              exact step 0 (Or.inl rfl) ⟨fun e => absurd e (by decide), fun e => absurd e.2.2.2.2 h4⟩ hgo
          · rw [if_neg h3] at hgo
            exact step 0 (Or.inl rfl) ⟨fun e => absurd e (by decide), fun e => absurd e.2.2.2.1 h3⟩ hgo
        · rw [if_neg h2] at hgo
          exact step 0 (Or.inl rfl) ⟨fun e => absurd e (by decide), fun e => absurd e.2.2.1 h2⟩ hgo
      · rw [if_neg h1] at hgo
        exact step 0 (Or.inl rfl) ⟨fun e => absurd e (by decide), fun e => absurd e.2.1 h1⟩ hgo
theorem least104 (hF : 200 ≤ F) (r9 : R 0 9 = some m) (r10 : R 0 10 = some m') (hO : zMo K I R J m u A fs fj fc fe) (hO' : zMo K I R J' m' u' B fs gj gc ge) : ∀ (d h f : Nat), h + d = 10 → d < f → ∃ v : Int32, (v = 0 ∨ v = 1) ∧ (v = 1 ↔ ∀ x, h ≤ x → x < 10 → ¬ cNar A B fs fj fe gj ge x ∧ ¬ ∃ y, y < x ∧ sFil A fs fj fc y x ∧ sFil B fs gj gc y x) ∧ f_X6_isLeast_104 F K 0 f I R (nI h) = some (v, I, R) := by
  have km : (K m).1 = 11 := by rw [hO.1.2.1]
  intro d
  induction d with
  | zero =>
    intro h f hd hf
    obtain ⟨f, rfl⟩ : ∃ y, f = y + 1 := ⟨f - 1, by omega⟩
    obtain rfl : h = 10 := by omega
    refine ⟨1, Or.inr rfl, ⟨fun _ y y1 y2 => by omega, fun _ => rfl⟩, ?_⟩
    show g_X6_isLeast_104 F K 0 _ I R (nI 10) = _
    unfold g_X6_isLeast_104
    rw [if_pos (by decide)]
  | succ d ih =>
    intro h f hd hf
    obtain ⟨f, rfl⟩ : ∃ y, f = y + 1 := ⟨f - 1, by omega⟩
    have hh : h < 10 := by omega
    obtain ⟨v, v1, v2, v3⟩ := ih (h + 1) f (by omega) (by omega)
    obtain ⟨a, a1, a2, a3⟩ := X1_canNarrow (F := F) hF hO hO' hh
    obtain ⟨b, b1, b2, b3⟩ := canMerge2 (F := F) hF hO hO' hh h 0 F (by omega) (by omega)
    have hgo : f_X6_isLeast_104 F K 0 (f + 1) I R (nI h) = if a = (0 : Int32) then (if b = (0 : Int32) then some (v, I, R) else some (0, I, R)) else some (0, I, R) := by
      show g_X6_isLeast_104 F K 0 (f_X6_isLeast_104 F K 0 f) I R (nI h) = _
      unfold g_X6_isLeast_104
      rw [if_neg (show ¬ ((10 : Int32) ≤ nI h) from nI_ge (b := 10) (by omega) (by decide)), r9, zbd_s, r10, zbd_s, zdr_s km, zbd_s, a2, zbd_s, zbd_s, zbd_s, zdr_s km, zbd_s, show f_X1_canMerge F K I R m (nI h) (some m') = some b from b2, zbd_s, nI_1, v3]
    rcases a1 with rfl | rfl
    · rcases b1 with rfl | rfl
      · refine ⟨v, v1, ?_, by rw [hgo, if_pos rfl, if_pos rfl]⟩
        rw [v2]
        constructor
        · intro e x x1 x2
          by_cases hx : x = h
          · rw [hx]
            refine ⟨fun z => absurd (a3.mpr z) (by decide), fun ⟨y, y1, y2⟩ => absurd (b3.mpr ⟨y, Nat.zero_le _, y1, y2⟩) (by decide)⟩
          · exact e x (by omega) x2
        · exact fun e x x1 x2 => e x (by omega) x2
      · refine ⟨0, Or.inl rfl, ⟨fun e => absurd e (by decide), fun e => ?_⟩, by rw [hgo, if_pos rfl, if_neg (by decide)]⟩
        obtain ⟨y, -, y1, y2⟩ := b3.mp rfl
        exact absurd ⟨y, y1, y2⟩ (e h (Nat.le_refl _) hh).2
    · refine ⟨0, Or.inl rfl, ⟨fun e => absurd e (by decide), fun e => ?_⟩, by rw [hgo, if_neg (by decide)]⟩
      exact absurd (a3.mp rfl) (e h (Nat.le_refl _) hh).1
theorem sFil_sym (h : sFil A fs fj fc g o) : sFil A fs fj fc o g := by
  obtain ⟨a, b, c, d⟩ := h
  refine ⟨by omega, b.symm, c.symm, ?_⟩
  by_cases e : fs g = 2
  · rw [if_pos e] at d
    rw [if_pos (by omega)]
    exact ⟨d.1.symm, d.2.symm⟩
  · rw [if_neg e] at d
    rw [if_neg (by omega), ← c]
    exact tSame_sym d
theorem cNar_iff (hA : tWF A) (hB : tWF B) (hG : zGG A I J m fs fj fc fe) (hG' : zGG B I J' m' fs gj gc ge) {x : Nat} (hx : x < 10) : cNar A B fs fj fe gj ge x ↔ (lIts A fs fj x = lIts B fs gj x ∧ lWid A fs fj x = lWid B fs gj x ∧ lIts B fs gj x ≠ -9) ∨ (lVan fs fc x ∧ lVan fs gc x) ∨ (lBef A fs fj fc x ∧ lBef B fs gj gc x) ∨ (lBeh A fs fj fc fe x ∧ lBeh B fs gj gc ge x) := by
  by_cases h0 : fs x = 0
  · have hno : lSb B fs gj x = false := by
      cases e : lSb B fs gj x with
      | false => rfl
      | true => rcases lSb_iff.mp e with ⟨z, -⟩ | ⟨z, -⟩ <;> omega
    constructor
    · rintro (e | e | e)
      · omega
      · omega
      · omega
    · rintro (e | e | e | e)
      · exact absurd (by unfold lIts; rw [hno, if_neg (by decide)]) e.2.2
      · have := e.1.1; omega
      · have := e.1.1; omega
      · have := e.1.1; omega
  obtain ⟨a1, -, -, -, -, -, -, -, a9, a10, -⟩ := zh_bounds hA hG hx h0
  obtain ⟨-, -, -, -, -, -, -, -, b9, b10, -⟩ := zh_bounds hB hG' hx h0
  have tgA : ∀ j, j < tn A → tg A j ≤ 12 ∧ tr A j ≤ 31 := fun j hj => by
    obtain ⟨w1, w2, w3, w4, -⟩ := hA.2.1 j hj
    by_cases h0 : ts A j = 0
    · exact ⟨w3 h0, by omega⟩
    · have := w4 h0; exact ⟨by omega, by omega⟩
  have tgB : ∀ j, j < tn B → tg B j ≤ 12 ∧ tr B j ≤ 31 := fun j hj => by
    obtain ⟨w1, w2, w3, w4, -⟩ := hB.2.1 j hj
    by_cases h0 : ts B j = 0
    · exact ⟨w3 h0, by omega⟩
    · have := w4 h0; exact ⟨by omega, by omega⟩
  have sbi : (lIts A fs fj x = lIts B fs gj x ∧ lWid A fs fj x = lWid B fs gj x ∧ lIts B fs gj x ≠ -9) → lSb A fs fj x = true ∧ lSb B fs gj x = true := fun e => by
    have h2 : lSb B fs gj x = true := by
      cases y : lSb B fs gj x with
      | true => rfl
      | false => exact absurd (by unfold lIts; rw [y, if_neg (by decide)]) e.2.2
    have h1 : lSb A fs fj x = true := by
      cases y : lSb A fs fj x with
      | true => rfl
      | false => exact absurd (e.1.symm.trans (by unfold lIts; rw [y, if_neg (by decide)])) e.2.2
    exact ⟨h1, h2⟩
  rcases a1 with hs | hs | hs
  · have hj := (a9.1 hs).1
    have hj' := (b9.1 hs).1
    have iA := tgA _ hj
    have iB := tgB _ hj'
    constructor
    · rintro (e | e | e)
      · obtain ⟨-, ⟨e1, e2, e3⟩, e4, e5, e6⟩ := e
        have y1 : lSb A fs fj x = true := lSb_iff.mpr (Or.inl ⟨hs, e1, e5⟩)
        have y2 : lSb B fs gj x = true := lSb_iff.mpr (Or.inl ⟨hs, e2, e6⟩)
        refine Or.inl ⟨?_, ?_, ?_⟩
        · unfold lIts; rw [if_pos y1, if_pos y2, e3]
        · unfold lWid; rw [if_pos y1, if_pos y2, e4]
        · unfold lIts; rw [if_pos y2]; exact nim9 (by omega)
      · omega
      · omega
    · rintro (e | e | e | e)
      · obtain ⟨y1, y2⟩ := sbi e
        unfold lIts lWid at e
        rw [if_pos y1, if_pos y2, if_pos y1, if_pos y2, if_neg (show ¬ fs x = 2 by omega), if_neg (show ¬ fs x = 2 by omega)] at e
        rcases lSb_iff.mp y1 with ⟨-, z1, z2⟩ | ⟨z, -⟩
        · rcases lSb_iff.mp y2 with ⟨-, z3, z4⟩ | ⟨z, -⟩
          · exact Or.inl ⟨hs, ⟨z1, z3, nI_inj (by omega) (by omega) e.1⟩, nI_inj (by omega) (by omega) e.2.1, z2, z4⟩
          · omega
        · omega
      · have := e.1.1; omega
      · have := e.1.1; omega
      · have := e.1.1; omega
  · have hj := (a9.2.1 hs).1
    have hj' := (b9.2.1 hs).1
    have iA := tgA _ hj
    have iB := tgB _ hj'
    constructor
    · rintro (e | e | e)
      · omega
      · obtain ⟨-, e1, e2, e3⟩ := e
        have y1 : lSb A fs fj x = true := lSb_iff.mpr (Or.inr ⟨hs, e1⟩)
        have y2 : lSb B fs gj x = true := lSb_iff.mpr (Or.inr ⟨hs, e2⟩)
        refine Or.inl ⟨?_, ?_, ?_⟩
        · unfold lIts; rw [if_pos y1, if_pos y2, e3]
        · unfold lWid; rw [if_pos y1, if_pos y2, if_pos hs, if_pos hs]
        · unfold lIts; rw [if_pos y2]; exact nim9 (by omega)
      · omega
    · rintro (e | e | e | e)
      · obtain ⟨y1, y2⟩ := sbi e
        unfold lIts at e
        rw [if_pos y1, if_pos y2] at e
        rcases lSb_iff.mp y1 with ⟨z, -⟩ | ⟨-, z1⟩
        · omega
        · rcases lSb_iff.mp y2 with ⟨z, -⟩ | ⟨-, z3⟩
          · omega
          · exact Or.inr (Or.inl ⟨hs, z1, z3, nI_inj (by omega) (by omega) e.1⟩)
      · have := e.1.1; omega
      · have := e.1.1; omega
      · have := e.1.1; omega
  · have cA := tSeg_0 hA.1 (a9.2.2 hs)
    have cB := tSeg_0 hB.1 (b9.2.2 hs)
    constructor
    · rintro (e | e | e)
      · omega
      · omega
      · rcases e.2 with ⟨e1, e2⟩ | ⟨⟨e1, e2⟩, e3, e4⟩ | ⟨⟨e1, e2⟩, e3, e4⟩
        · exact Or.inr (Or.inl ⟨⟨hs, cA.mp e1⟩, hs, cB.mp e2⟩)
        · exact Or.inr (Or.inr (Or.inl ⟨⟨hs, by omega, e2⟩, hs, by omega, e4⟩))
        · exact Or.inr (Or.inr (Or.inr ⟨⟨hs, by omega, e2⟩, hs, by omega, e4⟩))
    · rintro (e | e | e | e)
      · obtain ⟨y1, y2⟩ := sbi e
        rcases lSb_iff.mp y1 with ⟨z, -⟩ | ⟨z, -⟩ <;> omega
      · exact Or.inr (Or.inr ⟨hs, Or.inl ⟨cA.mpr e.1.2, cB.mpr e.2.2⟩⟩)
      · obtain ⟨⟨-, e1, e2⟩, -, e3, e4⟩ := e
        exact Or.inr (Or.inr ⟨hs, Or.inr (Or.inl ⟨⟨by omega, e2⟩, by omega, e4⟩)⟩)
      · obtain ⟨⟨-, e1, e2⟩, -, e3, e4⟩ := e
        exact Or.inr (Or.inr ⟨hs, Or.inr (Or.inr ⟨⟨by omega, e2⟩, by omega, e4⟩)⟩)
end ZLE
