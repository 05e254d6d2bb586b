/-! one hole's pass of lays() -/
section ZLB
variable {F : Nat} {J : zI} {RM : zR} {q m h g : Nat} {U : Tm} {I : zI} {fs fj fc fe : Nat → Nat} {x3 : Int32} {k10 : zI → Int32 → Int32 → Int32 → Option zI}
theorem lays505 (hh : h < 10) {s : Int32} (hs : s = 0 ∨ s = 1) : f_X7_lays_505 F zKm RM 89 k10 J (nI q) x3 (nI h) (some 120) (nI h) s = k10 (zup J 120 h s) (nI q) x3 (nI (h + 1)) := by
  unfold f_X7_lays_505
  rw [zdr_s (t := 2) rfl, zbd_s, zwrZ_s (by show h < 10; exact hh) (by decide) hs, zbd_s, nI_1]
theorem lX_01 (fs : Nat → Nat) (h : Nat) : (lX fs h = 0 ∧ fs h ≠ 3) ∨ (lX fs h = 1 ∧ fs h = 3) := by
  unfold lX
  by_cases e : fs h = 3
  · rw [if_pos e]; exact Or.inr ⟨rfl, e⟩
  · rw [if_neg e]; exact Or.inl ⟨rfl, e⟩
theorem lays453 (hRM : zRM RM) (hF : 200 ≤ F) (hq : q + 97 ≤ 5751) (hL : zLc U I J m q fs fj fc fe) (hh : h < 10) {s : Int32} (hs : s = 0 ∨ s = 1) : ∃ v : Int32, (v = 0 ∨ v = 1) ∧ (v ≠ 0 ↔ lBeh U fs fj fc fe h ∧ (x3 ≠ 0 ∨ J 120 h ≠ 0)) ∧ f_X7_lays_453 F zKm RM 89 k10 J (nI q) x3 (nI h) (lX fs h) (some 119) (nI h) s = k10 (zup (zup J 119 h s) 120 h v) (nI q) x3 (nI (h + 1)) := by
  have r31 : RM 89 31 = some 113 := hRM 89 31 (by decide) (by decide) (by decide)
  have r38 : RM 89 38 = some 120 := hRM 89 38 (by decide) (by decide) (by decide)
  have hL2 := zLc_q hL (zLq_zup (J := J) (a := 119) (k := h) (v := s) (by decide) (by decide))
  have e0 := lays505 (F := F) (RM := RM) (k10 := k10) (J := zup J 119 h s) (q := q) (x3 := x3) hh (Or.inl rfl : (0 : Int32) = 0 ∨ (0 : Int32) = 1)
  have e1 := lays505 (F := F) (RM := RM) (k10 := k10) (J := zup J 119 h s) (q := q) (x3 := x3) hh (Or.inr rfl : (1 : Int32) = 0 ∨ (1 : Int32) = 1)
  unfold f_X7_lays_453 f_X7_lays_504 f_X7_lays_500
  rw [zdr_s (t := 2) rfl, zbd_s, zwrZ_s (by show h < 10; exact hh) (by decide) hs, zbd_s, r38, zbd_s, e0, e1]
  have no : ¬ (lBeh U fs fj fc fe h ∧ (x3 ≠ 0 ∨ J 120 h ≠ 0)) → ((0 : Int32) ≠ 0 ↔ lBeh U fs fj fc fe h ∧ (x3 ≠ 0 ∨ J 120 h ≠ 0)) := fun n => ⟨fun e => absurd rfl e, fun e => absurd e n⟩
  rcases lX_01 fs h with ⟨x0, h3⟩ | ⟨x1, h3⟩
  · exact ⟨0, Or.inl rfl, no (fun e => h3 e.1.1), by rw [if_pos x0]⟩
  · obtain ⟨a1, a2, a3, a4, a5, a6⟩ := zLc_at hL hh (by omega)
    have hn := hL.1.1.2.1
    rw [if_neg (show ¬ (lX fs h = 0) by rw [x1]; decide), r31, zbd_s, zdr_s (t := 1) rfl, zbd_s, zrd_s (by show h < 10; exact hh) (by decide), zbd_s, zup_nb _ _ _ (by decide), a3]
    by_cases hc : 0 < fc h
    · rw [if_neg (show ¬ (nI (fc h) ≤ (0 : Int32)) from nI_nle hc (by omega)), X7_lastSort hRM hF hq hL2 hh h3 hc, zbd_s]
      have hsg := a5.2.2 h3
      have he : 0 < fe h := by
        rcases Nat.eq_zero_or_pos (fe h) with e | e
        · have := (tSeg_0 hL.1.1 hsg).mp e; omega
        · exact e
      have hl := (tSeg_last hL.1.1 hsg he).2.1
      have hs4 : ts U (lastU U fj fe h) ≤ 3 := (hL.1.2.1 _ hl).1
      by_cases h33 : ts U (lastU U fj fe h) = 3
      · exact ⟨0, Or.inl rfl, no (fun e => e.1.2.2 h33), by rw [if_pos ((ni3 (by omega)).mpr h33)]⟩
      · have hb : lBeh U fs fj fc fe h := ⟨h3, hc, h33⟩
        rw [if_neg (fun e => h33 ((ni3 (by omega)).mp e))]
        by_cases hx : x3 = 0
        · rw [if_pos hx, zbd_s, zdr_s (t := 2) rfl, zbd_s, zrd_s (by show h < 10; exact hh) (by decide), zbd_s, zup_nb _ _ _ (by decide)]
          by_cases ho : J 120 h = 0
          · exact ⟨0, Or.inl rfl, no (fun e => e.2.elim (fun z => z hx) (fun z => z ho)), by rw [if_pos ho]⟩
          · exact ⟨1, Or.inr rfl, ⟨fun _ => ⟨hb, Or.inr ho⟩, fun _ => by decide⟩, by rw [if_neg ho]⟩
        · exact ⟨1, Or.inr rfl, ⟨fun _ => ⟨hb, Or.inl hx⟩, fun _ => by decide⟩, by rw [if_neg hx]⟩
    · exact ⟨0, Or.inl rfl, no (fun e => hc e.1.2.1), by rw [if_pos (show nI (fc h) ≤ (0 : Int32) from nI_le (b := 0) (by omega) (by decide))]⟩
theorem lays396 (hRM : zRM RM) (hF : 200 ≤ F) (hq : q + 97 ≤ 5751) (hL : zLc U I J m q fs fj fc fe) (hh : h < 10) {s : Int32} (hs : s = 0 ∨ s = 1) : ∃ w v : Int32, (w ≠ 0 ↔ lBef U fs fj fc h ∧ (x3 ≠ 0 ∨ J 119 h ≠ 0)) ∧ (v ≠ 0 ↔ lBeh U fs fj fc fe h ∧ (x3 ≠ 0 ∨ J 120 h ≠ 0)) ∧ f_X7_lays_396 F zKm RM 89 k10 J (nI q) x3 (nI h) (lX fs h) (some 118) (nI h) s = k10 (zup (zup (zup J 118 h s) 119 h w) 120 h v) (nI q) x3 (nI (h + 1)) := by
  have r0 : RM 89 0 = some 90 := hRM 89 0 (by decide) (by decide) (by decide)
  have r30 : RM 89 30 = some 112 := hRM 89 30 (by decide) (by decide) (by decide)
  have r31 : RM 89 31 = some 113 := hRM 89 31 (by decide) (by decide) (by decide)
  have r37 : RM 89 37 = some 119 := hRM 89 37 (by decide) (by decide) (by decide)
  have hL2 := zLc_q hL (zLq_zup (J := J) (a := 118) (k := h) (v := s) (by decide) (by decide))
  obtain ⟨v, v1, v2, v3⟩ := lays453 (F := F) (k10 := k10) (x3 := x3) hRM hF hq hL2 hh (Or.inl rfl : (0 : Int32) = 0 ∨ (0 : Int32) = 1)
  obtain ⟨v', v1', v2', v3'⟩ := lays453 (F := F) (k10 := k10) (x3 := x3) hRM hF hq hL2 hh (Or.inr rfl : (1 : Int32) = 0 ∨ (1 : Int32) = 1)
  rw [zup_nb _ _ _ (by decide)] at v2 v2'
  unfold f_X7_lays_396 f_X7_lays_452 f_X7_lays_448
  rw [zdr_s (t := 2) rfl, zbd_s, zwrZ_s (by show h < 10; exact hh) (by decide) hs, zbd_s, r37, zbd_s, v3, v3']
  have no : ¬ (lBef U fs fj fc h ∧ (x3 ≠ 0 ∨ J 119 h ≠ 0)) → ((0 : Int32) ≠ 0 ↔ lBef U fs fj fc h ∧ (x3 ≠ 0 ∨ J 119 h ≠ 0)) := fun n => ⟨fun e => absurd rfl e, fun e => absurd e n⟩
  rcases lX_01 fs h with ⟨x0, h3⟩ | ⟨x1, h3⟩
  · exact ⟨0, v, no (fun e => h3 e.1.1), v2, by rw [if_pos x0]⟩
  · obtain ⟨a1, a2, a3, a4, a5, a6⟩ := zLc_at hL hh (by omega)
    obtain ⟨hU, hUm, -⟩ := hL
    have hn := hU.1.2.1
    rw [if_neg (show ¬ (lX fs h = 0) by rw [x1]; decide), r31, zbd_s, zdr_s (t := 1) rfl, zbd_s, zrd_s (by show h < 10; exact hh) (by decide), zbd_s, zup_nb _ _ _ (by decide), a3]
    by_cases hc : 0 < fc h
    · have hj : fj h < tn U := by omega
      have hs4 : ts U (fj h) ≤ 3 := (hU.2.1 _ hj).1
      rw [if_neg (show ¬ (nI (fc h) ≤ (0 : Int32)) from nI_nle hc (by omega)), r30, zbd_s, zdr_s (t := 1) rfl, zbd_s, zrd_s (by show h < 10; exact hh) (by decide), zbd_s, zup_nb _ _ _ (by decide), a2, X7_sort r0 hq (by rw [zup_ne _ _ _ (by decide)]; exact hUm) hn hj, zbd_s]
      by_cases h33 : ts U (fj h) = 3
      · exact ⟨0, v, no (fun e => e.1.2.2 h33), v2, by rw [if_pos ((ni3 (by omega)).mpr h33)]⟩
      · have hb : lBef U fs fj fc h := ⟨h3, hc, h33⟩
        rw [if_neg (fun e => h33 ((ni3 (by omega)).mp e))]
        by_cases hx : x3 = 0
        · rw [if_pos hx, zbd_s, zdr_s (t := 2) rfl, zbd_s, zrd_s (by show h < 10; exact hh) (by decide), zbd_s, zup_nb _ _ _ (by decide)]
          by_cases ho : J 119 h = 0
          · exact ⟨0, v, no (fun e => e.2.elim (fun z => z hx) (fun z => z ho)), v2, by rw [if_pos ho]⟩
          · exact ⟨1, v', ⟨fun _ => ⟨hb, Or.inr ho⟩, fun _ => by decide⟩, v2', by rw [if_neg ho]⟩
        · exact ⟨1, v', ⟨fun _ => ⟨hb, Or.inl hx⟩, fun _ => by decide⟩, v2', by rw [if_neg hx]⟩
    · exact ⟨0, v, no (fun e => hc e.1.2.1), v2, by rw [if_pos (show nI (fc h) ≤ (0 : Int32) from nI_le (b := 0) (by omega) (by decide))]⟩
theorem lays354 (hRM : zRM RM) (hF : 200 ≤ F) (hq : q + 97 ≤ 5751) (hL : zLc U I J m q fs fj fc fe) (hh : h < 10) : ∃ y w v : Int32, (y ≠ 0 ↔ lVan fs fc h ∧ (x3 ≠ 0 ∨ J 118 h ≠ 0)) ∧ (w ≠ 0 ↔ lBef U fs fj fc h ∧ (x3 ≠ 0 ∨ J 119 h ≠ 0)) ∧ (v ≠ 0 ↔ lBeh U fs fj fc fe h ∧ (x3 ≠ 0 ∨ J 120 h ≠ 0)) ∧ f_X7_lays_354 F zKm RM 89 k10 J (nI q) x3 (nI h) (lX fs h) = k10 (zup (zup (zup J 118 h y) 119 h w) 120 h v) (nI q) x3 (nI (h + 1)) := by
  have r31 : RM 89 31 = some 113 := hRM 89 31 (by decide) (by decide) (by decide)
  have r36 : RM 89 36 = some 118 := hRM 89 36 (by decide) (by decide) (by decide)
  obtain ⟨w, v, w2, v2, v3⟩ := lays396 (F := F) (k10 := k10) (x3 := x3) hRM hF hq hL hh (Or.inl rfl : (0 : Int32) = 0 ∨ (0 : Int32) = 1)
  obtain ⟨w', v', w2', v2', v3'⟩ := lays396 (F := F) (k10 := k10) (x3 := x3) hRM hF hq hL hh (Or.inr rfl : (1 : Int32) = 0 ∨ (1 : Int32) = 1)
  unfold f_X7_lays_354 f_X7_lays_395 f_X7_lays_391
  rw [r36, zbd_s, v3, v3']
  have no : ¬ (lVan fs fc h ∧ (x3 ≠ 0 ∨ J 118 h ≠ 0)) → ((0 : Int32) ≠ 0 ↔ lVan fs fc h ∧ (x3 ≠ 0 ∨ J 118 h ≠ 0)) := fun n => ⟨fun e => absurd rfl e, fun e => absurd e n⟩
  rcases lX_01 fs h with ⟨x0, h3⟩ | ⟨x1, h3⟩
  · exact ⟨0, w, v, no (fun e => h3 e.1.1), w2, v2, by rw [if_pos x0]⟩
  · obtain ⟨a1, a2, a3, a4, a5, a6⟩ := zLc_at hL hh (by omega)
    have hn := hL.1.1.2.1
    rw [if_neg (show ¬ (lX fs h = 0) by rw [x1]; decide), r31, zbd_s, zdr_s (t := 1) rfl, zbd_s, zrd_s (by show h < 10; exact hh) (by decide), zbd_s, a3]
    by_cases hc : fc h = 0
    · have hb : lVan fs fc h := ⟨h3, hc⟩
      rw [if_pos ((ni0 (by omega)).mpr hc)]
      by_cases hx : x3 = 0
      · rw [if_pos hx, zbd_s, zdr_s (t := 2) rfl, zbd_s, zrd_s (by show h < 10; exact hh) (by decide), zbd_s]
        by_cases ho : J 118 h = 0
        · exact ⟨0, w, v, no (fun e => e.2.elim (fun z => z hx) (fun z => z ho)), w2, v2, by rw [if_pos ho]⟩
        · exact ⟨1, w', v', ⟨fun _ => ⟨hb, Or.inr ho⟩, fun _ => by decide⟩, w2', v2', by rw [if_neg ho]⟩
      · exact ⟨1, w', v', ⟨fun _ => ⟨hb, Or.inl hx⟩, fun _ => by decide⟩, w2', v2', by rw [if_neg hx]⟩
    · exact ⟨0, w, v, no (fun e => hc e.1.2), w2, v2, by rw [if_neg (fun e => hc ((ni0 (by omega)).mp e))]⟩
/-- what the pass leaves at hole h -/
def zLv (U : Tm) (fs fj fc fe : Nat → Nat) (J J' : zI) (x3 : Int32) (h : Nat) : Prop := J' 116 h = (if x3 ≠ 0 ∨ (J 116 h = lIts U fs fj h ∧ J 117 h = lWid U fs fj h) then lIts U fs fj h else -9) ∧ J' 117 h = lWid U fs fj h ∧ (J' 118 h ≠ 0 ↔ lVan fs fc h ∧ (x3 ≠ 0 ∨ J 118 h ≠ 0)) ∧ (J' 119 h ≠ 0 ↔ lBef U fs fj fc h ∧ (x3 ≠ 0 ∨ J 119 h ≠ 0)) ∧ (J' 120 h ≠ 0 ↔ lBeh U fs fj fc fe h ∧ (x3 ≠ 0 ∨ J 120 h ≠ 0))
/-- only hole h changes, and row 115 not -/
def zLo (J J' : zI) (h : Nat) : Prop := (∀ b, b < 116 ∨ 120 < b → J' b = J b) ∧ ∀ b k, k ≠ h → J' b k = J b k
theorem lays278 (hRM : zRM RM) (hF : 200 ≤ F) (hq : q + 97 ≤ 5751) (hL : zLc U I J m q fs fj fc fe) (hh : h < 10) : ∃ J', zLo J J' h ∧ zLv U fs fj fc fe J J' x3 h ∧ f_X7_lays_278 F zKm RM 89 k10 J (nI q) x3 (nI h) (lS fs h) (lWid U fs fj h) (lIts U fs fj h) = k10 J' (nI q) x3 (nI (h + 1)) := by
  have r34 : RM 89 34 = some 116 := hRM 89 34 (by decide) (by decide) (by decide)
  have r35 : RM 89 35 = some 117 := hRM 89 35 (by decide) (by decide) (by decide)
  have key : ∀ s : Int32, s = (if x3 ≠ 0 ∨ (J 116 h = lIts U fs fj h ∧ J 117 h = lWid U fs fj h) then lIts U fs fj h else -9) → ∃ J', zLo J J' h ∧ zLv U fs fj fc fe J J' x3 h ∧ f_X7_lays_333 F zKm RM 89 k10 J (nI q) x3 (nI h) (lS fs h) (lWid U fs fj h) (some 116) (nI h) s = k10 J' (nI q) x3 (nI (h + 1)) := fun s hs => by
    have hL2 := zLc_q hL (zLq_tr (zLq_zup (J := J) (a := 116) (k := h) (v := s) (by decide) (by decide)) (zLq_zup (J := zup J 116 h s) (a := 117) (k := h) (v := lWid U fs fj h) (by decide) (by decide)))
    obtain ⟨y, w, v, y2, w2, v2, v3⟩ := lays354 (F := F) (k10 := k10) (x3 := x3) hRM hF hq hL2 hh
    rw [zup_nb _ _ _ (by decide), zup_nb _ _ _ (by decide)] at y2 w2 v2
    refine ⟨zup (zup (zup (zup (zup J 116 h s) 117 h (lWid U fs fj h)) 118 h y) 119 h w) 120 h v, ?_, ?_, ?_⟩
    · refine ⟨fun b hb => ?_, fun b k hk => ?_⟩
      · rw [zup_ne _ _ _ (by omega), zup_ne _ _ _ (by omega), zup_ne _ _ _ (by omega), zup_ne _ _ _ (by omega), zup_ne _ _ _ (by omega)]
      · have : ∀ (f : zI) (a : Nat) (z : Int32), zup f a h z b k = f b k := fun f a z => by unfold zup; rw [if_neg (fun e => hk e.2)]
        rw [this, this, this, this, this]
    · refine ⟨?_, ?_, ?_, ?_, ?_⟩
      · rw [zup_nb _ _ _ (by decide), zup_nb _ _ _ (by decide), zup_nb _ _ _ (by decide), zup_nb _ _ _ (by decide), zup_self]
        exact hs
      · rw [zup_nb _ _ _ (by decide), zup_nb _ _ _ (by decide), zup_nb _ _ _ (by decide), zup_self]
      · rw [zup_nb _ _ _ (by decide), zup_nb _ _ _ (by decide), zup_self]
        exact y2
      · rw [zup_nb _ _ _ (by decide), zup_self]
        exact w2
      · rw [zup_self]
        exact v2
    · unfold f_X7_lays_333
      rw [zdr_s (t := 1) rfl, zbd_s, zwr_s (by show h < 10; exact hh) (by decide), zbd_s, r35, zbd_s, zdr_s (t := 1) rfl, zbd_s, zwr_s (by show h < 10; exact hh) (by decide), zbd_s, ← v3]
      rcases lX_01 fs h with ⟨x0, h3⟩ | ⟨x1, h3⟩
      · rw [x0, if_neg]
        unfold lS
        by_cases e : fs h = 0
        · rw [if_pos e]; decide
        · obtain ⟨a1, -⟩ := zLc_at hL hh e
          rw [if_neg e]
          exact fun z => h3 ((ni3 (by omega)).mp z)
      · rw [x1, if_pos]
        unfold lS
        rw [if_neg (by omega), h3]
        rfl
  have e308 : ∀ s, f_X7_lays_308 F zKm RM 89 k10 J (nI q) x3 (nI h) (lS fs h) (lWid U fs fj h) s = f_X7_lays_333 F zKm RM 89 k10 J (nI q) x3 (nI h) (lS fs h) (lWid U fs fj h) (some 116) (nI h) s := fun s => by
    unfold f_X7_lays_308 f_X7_lays_313
    rw [r34, zbd_s, if_neg (by decide)]
  have e312 : ∀ s, f_X7_lays_312 F zKm RM 89 k10 J (nI q) x3 (nI h) (lS fs h) (lWid U fs fj h) s = f_X7_lays_333 F zKm RM 89 k10 J (nI q) x3 (nI h) (lS fs h) (lWid U fs fj h) (some 116) (nI h) (-9) := fun s => by
    unfold f_X7_lays_312 f_X7_lays_313
    rw [r34, zbd_s, if_pos rfl]
  obtain ⟨J1, a1, a2, a3⟩ := key _ rfl
  refine ⟨J1, a1, a2, ?_⟩
  rw [← a3]
  unfold f_X7_lays_278
  rw [e308, e312]
  by_cases hx : x3 = 0
  · rw [if_pos hx, r34, zbd_s, zdr_s (t := 1) rfl, zbd_s, zrd_s (by show h < 10; exact hh) (by decide), zbd_s]
    by_cases e1 : J 116 h = lIts U fs fj h
    · rw [if_pos e1, r35, zbd_s, zdr_s (t := 1) rfl, zbd_s, zrd_s (by show h < 10; exact hh) (by decide), zbd_s]
      by_cases e2 : J 117 h = lWid U fs fj h
      · rw [if_pos e2, if_pos (Or.inr ⟨e1, e2⟩)]
      · rw [if_neg e2, if_neg (fun z => z.elim (fun y => y hx) (fun y => e2 y.2))]
    · rw [if_neg e1, if_neg (fun z => z.elim (fun y => y hx) (fun y => e1 y.1))]
  · rw [if_neg hx, if_pos (Or.inl hx)]
end ZLB
