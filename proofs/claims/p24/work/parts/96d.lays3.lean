/-! the passes of lays() -/
section ZLD
variable {F : Nat} {J : zI} {RM : zR} {q m h g : Nat} {U : Tm} {I : zI} {fs fj fc fe : Nat → Nat} {x3 : Int32} {k10 : zI → Int32 → Int32 → Int32 → Option zI}
theorem lS_is (hL : zLc U I J m q fs fj fc fe) (hh : h < 10) (s : Nat) (h1 : s < 2 ^ 31) (h0 : s ≠ 0) : lS fs h = nI s ↔ fs h = s := by
  unfold lS
  by_cases e : fs h = 0
  · rw [if_pos e]
    exact ⟨fun z => absurd z.symm (nim9 h1), fun z => absurd (z.symm.trans e) h0⟩
  · have := (zLc_at hL hh e).1
    rw [if_neg e]
    exact ⟨fun z => nI_inj (by omega) h1 z, fun z => by rw [z]⟩
theorem lays224 (hb : lSb U fs fj h = false) : f_X7_lays_224 F zKm RM 89 k10 J (nI q) x3 (nI h) (lS fs h) = f_X7_lays_278 F zKm RM 89 k10 J (nI q) x3 (nI h) (lS fs h) (lWid U fs fj h) (lIts U fs fj h) := by
  unfold f_X7_lays_224 f_X7_lays_225 f_X7_lays_238 f_X7_lays_254 lWid lIts
  rw [if_pos rfl, if_pos rfl, hb, if_neg (by decide), if_neg (by decide)]
theorem lSb_true (hb : lSb U fs fj h = true) : (fs h = 1 ∧ ts U (fj h) = 0 ∧ sqO U (fj h) = none) ∨ (fs h = 2 ∧ ts U (fj h) = 0) := by
  unfold lSb at hb
  simp only [Bool.or_eq_true, Bool.and_eq_true, beq_iff_eq, Option.isNone_iff_eq_none] at hb
  rcases hb with ⟨⟨a, b⟩, c⟩ | ⟨a, b⟩
  · exact Or.inl ⟨a, b, c⟩
  · exact Or.inr ⟨a, b⟩
theorem lSb_iff : lSb U fs fj h = true ↔ (fs h = 1 ∧ ts U (fj h) = 0 ∧ sqO U (fj h) = none) ∨ (fs h = 2 ∧ ts U (fj h) = 0) := by
  refine ⟨lSb_true, fun hb => ?_⟩
  unfold lSb
  simp only [Bool.or_eq_true, Bool.and_eq_true, beq_iff_eq, Option.isNone_iff_eq_none]
  rcases hb with ⟨a, b, c⟩ | ⟨a, b⟩
  · exact Or.inl ⟨⟨a, b⟩, c⟩
  · exact Or.inr ⟨a, b⟩
theorem lays220 (hRM : zRM RM) (hq : q + 97 ≤ 5751) (hL : zLc U I J m q fs fj fc fe) (hh : h < 10) (hb : lSb U fs fj h = true) : f_X7_lays_220 F zKm RM 89 k10 J (nI q) x3 (nI h) (lS fs h) = f_X7_lays_278 F zKm RM 89 k10 J (nI q) x3 (nI h) (lS fs h) (lWid U fs fj h) (lIts U fs fj h) := by
  have r0 : RM 89 0 = some 90 := hRM 89 0 (by decide) (by decide) (by decide)
  have r30 : RM 89 30 = some 112 := hRM 89 30 (by decide) (by decide) (by decide)
  have h0 : fs h ≠ 0 := by rcases lSb_true hb with ⟨a, -⟩ | ⟨a, -⟩ <;> omega
  obtain ⟨a1, a2, a3, a4, a5, a6⟩ := zLc_at hL hh h0
  have hl2 : lS fs h = (2 : Int32) ↔ fs h = 2 := lS_is hL hh 2 (by decide) (by decide)
  obtain ⟨hU, hUm, -⟩ := hL
  have hn := hU.1.2.1
  have hj : fj h < tn U := by
    rcases lSb_true hb with ⟨a, -⟩ | ⟨a, -⟩
    · exact (a5.1 a).1
    · exact (a5.2.1 a).1
  have e254 : ∀ s, f_X7_lays_254 F zKm RM 89 k10 J (nI q) x3 (nI h) (lS fs h) 1 s = f_X7_lays_278 F zKm RM 89 k10 J (nI q) x3 (nI h) (lS fs h) s (nI (tg U (fj h))) := fun s => by
    unfold f_X7_lays_254
    rw [if_neg (by decide), r30, zbd_s, zdr_s (t := 1) rfl, zbd_s, zrd_s (by show h < 10; exact hh) (by decide), zbd_s, a2, X7_number r0 hq hUm hn hj, zbd_s]
  unfold f_X7_lays_220 f_X7_lays_225 f_X7_lays_238 lWid lIts
  rw [if_neg (by decide), e254, hb, if_pos rfl, if_pos rfl]
  by_cases h2 : fs h = 2
  · rw [if_pos (hl2.mpr h2), if_pos h2]
  · rw [if_neg (fun z => h2 (hl2.mp z)), if_neg h2, r30, zbd_s, zdr_s (t := 1) rfl, zbd_s, zrd_s (by show h < 10; exact hh) (by decide), zbd_s, a2, X7_arguments r0 hq hUm hn hj, zbd_s, e254]
theorem laysE (hRM : zRM RM) (hF : 200 ≤ F) (hq : q + 97 ≤ 5751) (hL : zLc U I J m q fs fj fc fe) (hh : h < 10) (kself : zI → Int32 → Int32 → Int32 → Int32 → Int32 → Option zI) : g_X7_lays_44 F zKm RM 89 k10 kself J (nI q) x3 (nI h) (lS fs h) (nI 10) = f_X7_lays_278 F zKm RM 89 k10 J (nI q) x3 (nI h) (lS fs h) (lWid U fs fj h) (lIts U fs fj h) := by
  have r0 : RM 89 0 = some 90 := hRM 89 0 (by decide) (by decide) (by decide)
  have r6 : RM 89 6 = some 93 := hRM 89 6 (by decide) (by decide) (by decide)
  have r30 : RM 89 30 = some 112 := hRM 89 30 (by decide) (by decide) (by decide)
  have hl1 : lS fs h = (1 : Int32) ↔ fs h = 1 := lS_is hL hh 1 (by decide) (by decide)
  have hl2 : lS fs h = (2 : Int32) ↔ fs h = 2 := lS_is hL hh 2 (by decide) (by decide)
  have e224 := lays224 (F := F) (RM := RM) (J := J) (q := q) (x3 := x3) (k10 := k10) (U := U) (fs := fs) (fj := fj) (h := h)
  have e220 := lays220 (F := F) (x3 := x3) (k10 := k10) hRM hq hL hh
  unfold g_X7_lays_44 f_X7_lays_199
  rw [if_pos (by decide)]
  by_cases h1 : fs h = 1
  · obtain ⟨a1, a2, a3, a4, a5, a6⟩ := zLc_at hL hh (by omega)
    obtain ⟨hU, hUm, -, h94, -⟩ := hL
    have hn := hU.1.2.1
    have hj := (a5.1 h1).1
    have hs4 := (hU.2.1 _ hj).1
    rw [if_neg (show ¬ lS fs h = 2 from fun z => by have := hl2.mp z; omega)]
    rw [if_pos (hl1.mpr h1), r30, zbd_s, zdr_s (t := 1) rfl, zbd_s, zrd_s (by show h < 10; exact hh) (by decide), zbd_s, a2, X7_sort r0 hq hUm hn hj, zbd_s]
    by_cases h0 : ts U (fj h) = 0
    · rw [if_pos ((ni0 (by omega)).mpr h0), zbd_s, zdr_s (t := 1) rfl, zbd_s, zrd_s (by show h < 10; exact hh) (by decide), zbd_s, r6, zbd_s, a2, X7_sequenceOf r0 hq hUm (w := 93) rfl hU (by omega) h94 hj, zbd_s]
      cases hs : sqO U (fj h) with
      | none =>
        show (if (-9 : Int32) = -9 then _ else _) = _
        rw [if_pos rfl, e220 (lSb_iff.mpr (Or.inl ⟨h1, h0, hs⟩))]
      | some k =>
        have hk := (sqO_lt hs).1
        have hr := (hU.2.1 _ hj).2.1
        show (if nI k = (-9 : Int32) then _ else _) = _
        rw [if_neg (nim9 (by omega)), e224]
        cases e : lSb U fs fj h with
        | false => rfl
        | true =>
          rcases lSb_iff.mp e with ⟨-, -, z⟩ | ⟨z, -⟩
          · rw [hs] at z; cases z
          · omega
    · rw [if_neg (fun z => h0 ((ni0 (by omega)).mp z)), e224]
      cases e : lSb U fs fj h with
      | false => rfl
      | true =>
        rcases lSb_iff.mp e with ⟨-, z, -⟩ | ⟨z, -⟩
        · exact absurd z h0
        · omega
  · rw [if_neg (fun z => h1 (hl1.mp z))]
    by_cases h2 : fs h = 2
    · obtain ⟨a1, a2, a3, a4, a5, a6⟩ := zLc_at hL hh (by omega)
      obtain ⟨hU, hUm, -, h94, -⟩ := hL
      have hn := hU.1.2.1
      have hj := (a5.2.1 h2).1
      have hs4 := (hU.2.1 _ hj).1
      rw [if_pos (hl2.mpr h2), r30, zbd_s, zdr_s (t := 1) rfl, zbd_s, zrd_s (by show h < 10; exact hh) (by decide), zbd_s, a2, X7_sort r0 hq hUm hn hj, zbd_s]
      by_cases h0 : ts U (fj h) = 0
      · rw [if_pos ((ni0 (by omega)).mpr h0), e220 (lSb_iff.mpr (Or.inr ⟨h2, h0⟩))]
      · rw [if_neg (fun z => h0 ((ni0 (by omega)).mp z)), e224]
        cases e : lSb U fs fj h with
        | false => rfl
        | true =>
          rcases lSb_iff.mp e with ⟨z, -⟩ | ⟨-, z⟩
          · exact absurd z h1
          · exact absurd z h0
    · rw [if_neg (fun z => h2 (hl2.mp z)), e224]
      cases e : lSb U fs fj h with
      | false => rfl
      | true =>
        rcases lSb_iff.mp e with ⟨z, -⟩ | ⟨z, -⟩
        · exact absurd z h1
        · exact absurd z h2
theorem lays44s (hRM : zRM RM) (hF : 200 ≤ F) (hq : q + 97 ≤ 5751) (hL : zLc U I J m q fs fj fc fe) (hh : h < 10) (hg : g < 10) (kself : zI → Int32 → Int32 → Int32 → Int32 → Int32 → Option zI) : ∃ v : Int32, (v ≠ 0 ↔ lEq U fs fj fc h g ∧ (x3 ≠ 0 ∨ J 115 (10 * h + g) ≠ 0)) ∧ g_X7_lays_44 F zKm RM 89 k10 kself J (nI q) x3 (nI h) (lS fs h) (nI g) = kself (zup J 115 (10 * h + g) v) (nI q) x3 (nI h) (lS fs h) (nI (g + 1)) := by
  have r17 : RM 89 17 = some 100 := hRM 89 17 (by decide) (by decide) (by decide)
  have r31 : RM 89 31 = some 113 := hRM 89 31 (by decide) (by decide) (by decide)
  have r33 : RM 89 33 = some 115 := hRM 89 33 (by decide) (by decide) (by decide)
  have e150 : ∀ s : Int32, (s = 0 ∨ s = 1) → f_X7_lays_150 F zKm RM 89 k10 kself J (nI q) x3 (nI h) (lS fs h) (nI g) (some 115) (nI (10 * h + g)) s = kself (zup J 115 (10 * h + g) s) (nI q) x3 (nI h) (lS fs h) (nI (g + 1)) := fun s hs => by
    unfold f_X7_lays_150
    rw [zdr_s (t := 2) rfl, zbd_s, zwrZ_s (by show _ < 100; omega) (by decide) hs, zbd_s, nI_1]
  have eix : ((10 : Int32) * nI h) + nI g = nI (10 * h + g) := by rw [nl10, nI_mul, nI_add]
  have e105 : f_X7_lays_105 F zKm RM 89 k10 kself J (nI q) x3 (nI h) (lS fs h) (nI g) = kself (zup J 115 (10 * h + g) 0) (nI q) x3 (nI h) (lS fs h) (nI (g + 1)) := by
    unfold f_X7_lays_105 f_X7_lays_106 f_X7_lays_149
    rw [r33, zbd_s, if_pos rfl, eix, e150 0 (Or.inl rfl)]
  have no : ¬ (lEq U fs fj fc h g ∧ (x3 ≠ 0 ∨ J 115 (10 * h + g) ≠ 0)) → ((0 : Int32) ≠ 0 ↔ lEq U fs fj fc h g ∧ (x3 ≠ 0 ∨ J 115 (10 * h + g) ≠ 0)) := fun n => ⟨fun e => absurd rfl e, fun e => absurd e n⟩
  unfold g_X7_lays_44
  rw [if_neg (show ¬ ((10 : Int32) ≤ nI g) from nI_ge (b := 10) (by omega) (by decide)), e105]
  by_cases hgh : g = h
  · exact ⟨0, no (fun e => e.1.1 hgh), by rw [if_pos (by rw [hgh])]⟩
  rw [if_neg (fun z => hgh (nI_inj (by omega) (by omega) z))]
  by_cases h0 : fs h = 0
  · exact ⟨0, no (fun e => e.1.2.1 h0), by rw [if_pos (show lS fs h = -9 by unfold lS; rw [if_pos h0])]⟩
  have hlS : lS fs h = nI (fs h) := by unfold lS; rw [if_neg h0]
  have hs4 := (zLc_at hL hh h0).1
  rw [if_neg (show ¬ lS fs h = -9 by rw [hlS]; exact nim9 (by omega)), r31, zbd_s, zdr_s (t := 1) rfl, zbd_s, zrd_s (by show g < 10; exact hg) (by decide), zbd_s]
  by_cases hg0 : fs g = 0
  · have hm1 : J 113 g = -1 := by
      rcases hL.2.2.2.2 g hg with ⟨-, -, b⟩ | ⟨a, -⟩
      · exact b
      · omega
    exact ⟨0, no (fun e => h0 (e.1.2.2.1.trans hg0)), by rw [hm1, if_pos (by decide)]⟩
  obtain ⟨b1, b2, b3, b4, b5, b6⟩ := zLc_at hL hg hg0
  have hn := hL.1.1.2.1
  have h101 := hL.2.2.1 g hg hg0
  rw [b3, if_neg (nI_pos (by omega)), r17, zbd_s, zdr_s (t := 1) rfl, zbd_s, zrd_s (by show g < 10; exact hg) (by decide), zbd_s, h101]
  by_cases hs : fs g = fs h
  · obtain ⟨v, v1, v2⟩ := X7_isLike (F := F) hRM hF hq hL hh hg h0 hs
    rw [if_pos (show nI (fs g) = lS fs h by rw [hlS, hs]), show f_X7_isLike F zKm J RM 89 (nI q) (nI h) (nI g) (lS fs h) = some v by rw [hlS]; exact v1, zbd_s]
    rcases v2 with ⟨rfl, v2⟩ | ⟨rfl, v2⟩
    · exact ⟨0, no (fun e => v2 e.1.2), by rw [if_pos rfl]⟩
    · have hE : lEq U fs fj fc h g := ⟨hgh, v2⟩
      rw [if_neg (by decide)]
      unfold f_X7_lays_106 f_X7_lays_149 f_X7_lays_145
      rw [r33, zbd_s, if_neg (by decide), eix, e150 0 (Or.inl rfl), e150 1 (Or.inr rfl)]
      by_cases hx : x3 = 0
      · rw [if_pos hx, zbd_s, zdr_s (t := 2) rfl, zbd_s, zrd_s (by show _ < 100; omega) (by decide), zbd_s]
        by_cases ho : J 115 (10 * h + g) = 0
        · exact ⟨0, no (fun e => e.2.elim (fun z => z hx) (fun z => z ho)), by rw [if_pos ho]⟩
        · exact ⟨1, ⟨fun _ => ⟨hE, Or.inr ho⟩, fun _ => by decide⟩, by rw [if_neg ho]⟩
      · exact ⟨1, ⟨fun _ => ⟨hE, Or.inl hx⟩, fun _ => by decide⟩, by rw [if_neg hx]⟩
  · exact ⟨0, no (fun e => hs e.1.2.2.1.symm), by rw [if_neg (fun z => hs (nI_inj (by omega) (by omega) (z.trans hlS)))]⟩
theorem lays44 (hRM : zRM RM) (hF : 200 ≤ F) (hq : q + 97 ≤ 5751) (hh : h < 10) : ∀ (d g f : Nat) (J : zI), g + d = 10 → d < f → zLc U I J m q fs fj fc fe → ∃ J', (∀ b, b ≠ 115 → J' b = J b) ∧ (∀ k, ¬ (10 * h + g ≤ k ∧ k < 10 * h + 10) → J' 115 k = J 115 k) ∧ (∀ x, g ≤ x → x < 10 → (J' 115 (10 * h + x) ≠ 0 ↔ lEq U fs fj fc h x ∧ (x3 ≠ 0 ∨ J 115 (10 * h + x) ≠ 0))) ∧ f_X7_lays_44 F zKm RM 89 k10 f J (nI q) x3 (nI h) (lS fs h) (nI g) = f_X7_lays_278 F zKm RM 89 k10 J' (nI q) x3 (nI h) (lS fs h) (lWid U fs fj h) (lIts U fs fj h) := by
  intro d
  induction d with
  | zero =>
    intro g f J hd hf hL
    obtain ⟨f, rfl⟩ : ∃ y, f = y + 1 := ⟨f - 1, by omega⟩
    obtain rfl : g = 10 := by omega
    exact ⟨J, fun _ _ => rfl, fun _ _ => rfl, fun x x1 x2 => by omega, laysE hRM hF hq hL hh _⟩
  | succ d ih =>
    intro g f J hd hf hL
    obtain ⟨f, rfl⟩ : ∃ y, f = y + 1 := ⟨f - 1, by omega⟩
    obtain ⟨v, v1, v2⟩ := lays44s (F := F) (x3 := x3) (k10 := k10) hRM hF hq hL hh (show g < 10 by omega) (f_X7_lays_44 F zKm RM 89 k10 f)
    obtain ⟨J', j1, j2, j3, j4⟩ := ih (g + 1) f (zup J 115 (10 * h + g) v) (by omega) (by omega) (zLc_q hL (zLq_zup (by decide) (by decide)))
    refine ⟨J', fun b hb => by rw [j1 b hb, zup_ne _ _ _ hb], fun k hk => by rw [j2 k (by omega), zup_self_ne _ _ _ (by omega)], fun x x1 x2 => ?_, ?_⟩
    · by_cases hx : x = g
      · rw [hx, j2 (10 * h + g) (by omega), zup_self]
        exact v1
      · rw [j3 x (by omega) x2, zup_self_ne _ _ _ (by omega)]
    · rw [← j4]
      exact v2
theorem lays10 (hRM : zRM RM) (hF : 200 ≤ F) (hq : q + 97 ≤ 5751) : ∀ (d h f : Nat) (J : zI), h + d = 10 → d < f → zLc U I J m q fs fj fc fe → ∃ J', zLq J J' ∧ (∀ x, h ≤ x → x < 10 → zLv U fs fj fc fe J J' x3 x ∧ ∀ y, y < 10 → (J' 115 (10 * x + y) ≠ 0 ↔ lEq U fs fj fc x y ∧ (x3 ≠ 0 ∨ J 115 (10 * x + y) ≠ 0))) ∧ (∀ x, x < h → (∀ a, a ≠ 115 → J' a x = J a x) ∧ ∀ y, y < 10 → J' 115 (10 * x + y) = J 115 (10 * x + y)) ∧ f_X7_lays_10 F zKm RM 89 f J (nI q) x3 (nI h) = some J' := by
  have r17 : RM 89 17 = some 100 := hRM 89 17 (by decide) (by decide) (by decide)
  have r31 : RM 89 31 = some 113 := hRM 89 31 (by decide) (by decide) (by decide)
  intro d
  induction d with
  | zero =>
    intro h f J hd hf hL
    obtain ⟨f, rfl⟩ : ∃ y, f = y + 1 := ⟨f - 1, by omega⟩
    obtain rfl : h = 10 := by omega
    refine ⟨J, fun _ _ => rfl, fun x x1 x2 => by omega, fun x _ => ⟨fun _ _ => rfl, fun _ _ => rfl⟩, ?_⟩
    show g_X7_lays_10 F zKm RM 89 _ J (nI q) x3 (nI 10) = _
    unfold g_X7_lays_10
    rw [if_pos (by decide)]
  | succ d ih =>
    intro h f J hd hf hL
    obtain ⟨f, rfl⟩ : ∃ y, f = y + 1 := ⟨f - 1, by omega⟩
    have hh : h < 10 := by omega
    obtain ⟨J1, i1, i2, i3, i4⟩ := lays44 (F := F) (x3 := x3) (k10 := f_X7_lays_10 F zKm RM 89 f) hRM hF hq hh 10 0 F J (by omega) (by omega) hL
    have q1 : zLq J J1 := fun b hb => i1 b (by omega)
    have hL1 := zLc_q hL q1
    obtain ⟨J2, k1, k2, k3⟩ := lays278 (F := F) (x3 := x3) (k10 := f_X7_lays_10 F zKm RM 89 f) hRM hF hq hL1 hh
    have q2 : zLq J1 J2 := fun b hb => k1.1 b (by omega)
    have hL2 := zLc_q hL1 q2
    obtain ⟨J3, l1, l2, l3, l4⟩ := ih (h + 1) f J2 (by omega) (by omega) hL2
    have e116 : J2 115 = J1 115 := k1.1 115 (by omega)
    refine ⟨J3, zLq_tr q1 (zLq_tr q2 l1), fun x x1 x2 => ?_, fun x x1 => ⟨fun a ha => ?_, fun y hy => ?_⟩, ?_⟩
    · by_cases hx : x = h
      · subst hx
        obtain ⟨m1, m2⟩ := l3 x (by omega)
        refine ⟨?_, fun y hy => ?_⟩
        · unfold zLv at k2 ⊢
          rw [m1 116 (by decide), m1 117 (by decide), m1 118 (by decide), m1 119 (by decide), m1 120 (by decide)]
          rw [i1 116 (by decide), i1 117 (by decide), i1 118 (by decide), i1 119 (by decide), i1 120 (by decide)] at k2
          exact k2
        · rw [m2 y hy, e116]
          exact i3 y (Nat.zero_le _) hy
      · obtain ⟨m1, m2⟩ := l2 x (by omega) x2
        refine ⟨?_, fun y hy => ?_⟩
        · unfold zLv at m1 ⊢
          rw [k1.2 116 x hx, k1.2 117 x hx, k1.2 118 x hx, k1.2 119 x hx, k1.2 120 x hx, i1 116 (by decide), i1 117 (by decide), i1 118 (by decide), i1 119 (by decide), i1 120 (by decide)] at m1
          exact m1
        · have := m2 y hy
          rw [e116, i2 (10 * x + y) (by omega)] at this
          exact this
    · rw [(l3 x (by omega)).1 a ha, k1.2 a x (by omega), i1 a ha]
    · rw [(l3 x (by omega)).2 y hy, e116, i2 (10 * x + y) (by omega)]
    · rw [← l4, ← k3, ← i4]
      show g_X7_lays_10 F zKm RM 89 _ J (nI q) x3 (nI h) = _
      unfold g_X7_lays_10 f_X7_lays_39
      rw [if_neg (show ¬ ((10 : Int32) ≤ nI h) from nI_ge (b := 10) (by omega) (by decide)), r31, zbd_s, zdr_s (t := 1) rfl, zbd_s, zrd_s (by show h < 10; exact hh) (by decide), zbd_s]
      by_cases h0 : fs h = 0
      · have hm1 : J 113 h = -1 := by
          rcases hL.2.2.2.2 h hh with ⟨-, -, b⟩ | ⟨a, -⟩
          · exact b
          · omega
        rw [hm1, if_neg (by decide), show (-9 : Int32) = lS fs h by unfold lS; rw [if_pos h0]]
        rfl
      · obtain ⟨b1, b2, b3, b4, b5, b6⟩ := zLc_at hL hh h0
        rw [b3, if_pos (nI_pos' (by have := hL.1.1.2.1; omega)), r17, zbd_s, zdr_s (t := 1) rfl, zbd_s, zrd_s (by show h < 10; exact hh) (by decide), zbd_s, hL.2.2.1 h hh h0, show nI (fs h) = lS fs h by unfold lS; rw [if_neg h0]]
        rfl
end ZLD
