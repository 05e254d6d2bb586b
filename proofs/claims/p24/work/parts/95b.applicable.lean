/-! isApplicable() of the reference -/
section ZIA
variable {F : Nat} {J : zI} {RM : zR} {o ol ow q m : Nat} {T U W : Tm} {I : zI} {fj fc fe : Nat → Nat}
theorem X7_sortOf (hRM : zRM RM) (hF : 200 ≤ F) (ho : o + 97 ≤ 5751) (hT : tWF T) (hTm : zTm (J 90) o T) (h : Nat) (hh : h < 10) : ∃ v, f_X7_sortOf F zKm J RM 89 (nI o) (nI h) = some v ∧ ((v = -9 ∧ ∀ p, p < tn T → ts T p ≠ 0 → tg T p ≠ h) ∨ ∃ p, p < tn T ∧ ts T p ≠ 0 ∧ tg T p = h ∧ v = nI (ts T p)) := by
  have r0 : RM 89 0 = some 90 := hRM 89 0 (by decide) (by decide) (by decide)
  have hn := hT.1.2.1
  have key : ∀ (d i f : Nat), i + d = tn T → d < f → ∃ v, f_X7_sortOf_2 F zKm J RM 89 f (nI o) (nI h) (nI i) = some v ∧ ((v = -9 ∧ ∀ p, i ≤ p → p < tn T → ts T p ≠ 0 → tg T p ≠ h) ∨ ∃ p, p < tn T ∧ ts T p ≠ 0 ∧ tg T p = h ∧ v = nI (ts T p)) := by
    intro d
    induction d with
    | zero =>
      intro i f hi hf
      obtain ⟨f, rfl⟩ : ∃ g, f = g + 1 := ⟨f - 1, by omega⟩
      refine ⟨-9, ?_, Or.inl ⟨rfl, fun p h1 h2 => by omega⟩⟩
      show g_X7_sortOf_2 F zKm J RM 89 _ (nI o) (nI h) (nI i) = _
      unfold g_X7_sortOf_2
      rw [r0, zbd_s, zd91, zbd_s, zrd_s (by rw [zKm91]; show o < 5751; omega) (by decide), zbd_s, hTm.1, if_pos (nI_le (by omega) (by omega))]
    | succ d ih =>
      intro i f hi hf
      obtain ⟨f, rfl⟩ : ∃ g, f = g + 1 := ⟨f - 1, by omega⟩
      obtain ⟨v, v1, v2⟩ := ih (i + 1) f (by omega) (by omega)
      obtain ⟨a1, -, a3, a4, -⟩ := hT.2.1 i (by omega)
      have hgo : f_X7_sortOf_2 F zKm J RM 89 (f + 1) (nI o) (nI h) (nI i) = if nI (ts T i) = (0 : Int32) then some v else if nI (tg T i) = nI h then some (nI (ts T i)) else some v := by
        show g_X7_sortOf_2 F zKm J RM 89 (f_X7_sortOf_2 F zKm J RM 89 f) (nI o) (nI h) (nI i) = _
        unfold g_X7_sortOf_2 f_X7_sortOf_38
        rw [r0, zbd_s, zd91, zbd_s, zrd_s (by rw [zKm91]; show o < 5751; omega) (by decide), zbd_s, hTm.1, if_neg (nI_ge (by omega) (by omega)), X7_sort r0 ho hTm hn (by omega), zbd_s, X7_number r0 ho hTm hn (by omega), zbd_s, zbd_s, nI_1, v1]
      by_cases h0 : ts T i = 0
      · refine ⟨v, by rw [hgo, if_pos ((ni0 (by omega)).mpr h0)], ?_⟩
        rcases v2 with ⟨b1, b2⟩ | b
        · refine Or.inl ⟨b1, fun p p1 p2 p3 => ?_⟩
          have : p ≠ i := fun e => p3 (by rw [e]; exact h0)
          exact b2 p (by omega) p2 p3
        · exact Or.inr b
      · rw [if_neg (fun e => h0 ((ni0 (by omega)).mp e))] at hgo
        have hg := a4 h0
        by_cases hgh : tg T i = h
        · exact ⟨_, by rw [hgo, if_pos (by rw [hgh])], Or.inr ⟨i, by omega, h0, hgh, rfl⟩⟩
        · refine ⟨v, by rw [hgo, if_neg (fun e => hgh (nI_inj (by omega) (by omega) e))], ?_⟩
          rcases v2 with ⟨b1, b2⟩ | b
          · refine Or.inl ⟨b1, fun p p1 p2 p3 => ?_⟩
            by_cases hp : p = i
            · rw [hp]; exact hgh
            · exact b2 p (by omega) p2 p3
          · exact Or.inr b
  obtain ⟨v, v1, v2⟩ := key (tn T) 0 F (by omega) (by omega)
  refine ⟨v, v1, ?_⟩
  rcases v2 with ⟨b1, b2⟩ | b
  · exact Or.inl ⟨b1, fun p p1 p2 => b2 p (Nat.zero_le _) p1 p2⟩
  · exact Or.inr b
/-- a hole of W is one of T, of the same sort -/
def zAq (T W : Tm) (h : Nat) : Prop := ∀ i, i < tn W → ts W i ≠ 0 → tg W i = h → ∃ p, p < tn T ∧ ts T p = ts W i ∧ tg T p = tg W i
theorem appl6 (hRM : zRM RM) (hF : 200 ≤ F) (hol : ol + 97 ≤ 5751) (how : ow + 97 ≤ 5751) (hT : tWF T) (hW : tWF W) (hTm : zTm (J 90) ol T) (hWm : zTm (J 90) ow W) (x3 : Int32) : ∀ (d h f : Nat) (b : Int32), h + d = 10 → d < f → (b = 0 ∨ b = 1) → ∃ v : Int32, (v = 0 ∨ v = 1) ∧ (v = 1 ↔ (b = 1 ∧ ∀ g, h ≤ g → g < 10 → zAq T W g)) ∧ f_X7_isApplicable_6 F zKm RM 89 f J (nI ol) (nI ow) x3 b (nI h) = f_X7_isApplicable_71 F zKm RM 89 F (zrw J 92 0 (tn W) (fun j => nI (tsp W j))) (nI ow) x3 v 0 := by
  have r0 : RM 89 0 = some 90 := hRM 89 0 (by decide) (by decide) (by decide)
  have r5 : RM 89 5 = some 92 := hRM 89 5 (by decide) (by decide) (by decide)
  intro d
  induction d with
  | zero =>
    intro h f b hd hf hb
    obtain ⟨f, rfl⟩ : ∃ g, f = g + 1 := ⟨f - 1, by omega⟩
    obtain rfl : h = 10 := by omega
    refine ⟨b, hb, ⟨fun e => ⟨e, fun g g1 g2 => by omega⟩, fun e => e.1⟩, ?_⟩
    have c1 := X7_counts (F := F) (J := J) (by omega) r0 how (w := 92) rfl (by decide) hW.1 (tWF_r hW) hWm
    show g_X7_isApplicable_6 F zKm RM 89 _ J (nI ol) (nI ow) x3 b (nI 10) = _
    unfold g_X7_isApplicable_6
    rw [if_pos (by decide), r5, zbd_s, c1, zbd_s]
  | succ d ih =>
    intro h f b hd hf hb
    obtain ⟨f, rfl⟩ : ∃ g, f = g + 1 := ⟨f - 1, by omega⟩
    obtain ⟨vw, w1, w2⟩ := X7_sortOf (F := F) hRM hF how hW hWm h (by omega)
    obtain ⟨vt, t1, t2⟩ := X7_sortOf (F := F) hRM hF hol hT hTm h (by omega)
    have hgo : f_X7_isApplicable_6 F zKm RM 89 (f + 1) J (nI ol) (nI ow) x3 b (nI h) = if b = (0 : Int32) then f_X7_isApplicable_6 F zKm RM 89 f J (nI ol) (nI ow) x3 0 (nI (h + 1)) else if vw = (-9 : Int32) then f_X7_isApplicable_6 F zKm RM 89 f J (nI ol) (nI ow) x3 1 (nI (h + 1)) else if vw = vt then f_X7_isApplicable_6 F zKm RM 89 f J (nI ol) (nI ow) x3 1 (nI (h + 1)) else f_X7_isApplicable_6 F zKm RM 89 f J (nI ol) (nI ow) x3 0 (nI (h + 1)) := by
      show g_X7_isApplicable_6 F zKm RM 89 _ J (nI ol) (nI ow) x3 b (nI h) = _
      unfold g_X7_isApplicable_6 f_X7_isApplicable_50 f_X7_isApplicable_46 f_X7_isApplicable_51
      rw [if_neg (show ¬ ((10 : Int32) ≤ nI h) from nI_ge (b := 10) (by omega) (by decide)), w1, zbd_s, t1, zbd_s, nI_1]
    have step : ∀ b' : Int32, (b' = 0 ∨ b' = 1) → (b' = 1 ↔ b = 1 ∧ zAq T W h) → f_X7_isApplicable_6 F zKm RM 89 (f + 1) J (nI ol) (nI ow) x3 b (nI h) = f_X7_isApplicable_6 F zKm RM 89 f J (nI ol) (nI ow) x3 b' (nI (h + 1)) → ∃ v : Int32, (v = 0 ∨ v = 1) ∧ (v = 1 ↔ (b = 1 ∧ ∀ g, h ≤ g → g < 10 → zAq T W g)) ∧ f_X7_isApplicable_6 F zKm RM 89 (f + 1) J (nI ol) (nI ow) x3 b (nI h) = f_X7_isApplicable_71 F zKm RM 89 F (zrw J 92 0 (tn W) (fun j => nI (tsp W j))) (nI ow) x3 v 0 := fun b' b1 b2 b3 => by
      obtain ⟨v, v1, v2, v3⟩ := ih (h + 1) f b' (by omega) (by omega) b1
      refine ⟨v, v1, ?_, by rw [b3, v3]⟩
      rw [v2, b2]
      constructor
      · rintro ⟨⟨a1, a2⟩, a3⟩
        refine ⟨a1, fun g g1 g2 => ?_⟩
        by_cases hg : g = h
        · rw [hg]; exact a2
        · exact a3 g (by omega) g2
      · rintro ⟨a1, a2⟩
        exact ⟨⟨a1, a2 h (Nat.le_refl _) (by omega)⟩, fun g g1 g2 => a2 g (by omega) g2⟩
    rcases hb with rfl | rfl
    · rw [if_pos rfl] at hgo
      exact step 0 (Or.inl rfl) ⟨fun e => absurd e (by decide), fun e => absurd e.1 (by decide)⟩ hgo
    · rw [if_neg (by decide)] at hgo
      rcases w2 with ⟨rfl, wno⟩ | ⟨i0, i1, i2, i3, rfl⟩
      · rw [if_pos rfl] at hgo
        exact step 1 (Or.inr rfl) ⟨fun _ => ⟨rfl, fun i a1 a2 a3 => absurd a3 (wno i a1 a2)⟩, fun _ => rfl⟩ hgo
      · have hi4 := (hW.2.1 i0 i1).1
        rw [if_neg (nim9 (by omega))] at hgo
        by_cases hv : nI (ts W i0) = vt
        · rw [if_pos hv] at hgo
          refine step 1 (Or.inr rfl) ⟨fun _ => ⟨rfl, fun i a1 a2 a3 => ?_⟩, fun _ => rfl⟩ hgo
          rcases t2 with ⟨rfl, -⟩ | ⟨p, p1, p2, p3, rfl⟩
          · exact absurd hv (nim9 (by omega))
          · have hp4 := (hT.2.1 p p1).1
            have e1 := nI_inj (by omega) (by omega) hv
            have e2 := hW.2.2.1 i0 i i1 a1 i2 a2 (by omega)
            exact ⟨p, p1, by omega, by omega⟩
        · rw [if_neg hv] at hgo
          refine step 0 (Or.inl rfl) ⟨fun e => absurd e (by decide), fun e => ?_⟩ hgo
          exfalso
          obtain ⟨p, p1, p2, p3⟩ := e.2 i0 i1 i2 i3
          rcases t2 with ⟨-, tno⟩ | ⟨p', q1, q2, q3, rfl⟩
          · exact tno p p1 (by omega) (by omega)
          · have := hT.2.2.1 p' p q1 p1 q2 (by omega) (by omega)
            exact hv (by rw [this, p2])
theorem appl71 (hRM : zRM RM) (hF : 200 ≤ F) (how : ow + 97 ≤ 5751) (hq : q + 97 ≤ 5751) (hT : tWF T) (hU : tWF U) (hW : tWF W) (hWm : zTm (J 90) ow W) (hUm : zTm (J 90) q U) (h93 : ∀ y, y < tn W → J 92 y = nI (tsp W y)) (hff : zFF T U I J m fj fc fe) (hap : zAp1 T W) : ∀ (d i f : Nat), i + d = tn W → d + 1 < f → ∃ v : Int32, (v = 0 ∨ v = 1) ∧ f_X7_isApplicable_71 F zKm RM 89 f J (nI ow) (nI q) 1 (nI i) = some (v, J) ∧ (v = 1 ↔ ∀ x, i ≤ x → x < tn W → ts W x = 2 → ts U (fj (tg W x)) = 2 → wdt W fe x ≠ 0) := by
  have r0 : RM 89 0 = some 90 := hRM 89 0 (by decide) (by decide) (by decide)
  have r30 : RM 89 30 = some 112 := hRM 89 30 (by decide) (by decide) (by decide)
  have k113 : zKm 112 = (1, 10) := rfl
  have hn := hW.1.2.1
  intro d
  induction d with
  | zero =>
    intro i f hi hf
    obtain ⟨f, rfl⟩ : ∃ g, f = g + 1 := ⟨f - 1, by omega⟩
    refine ⟨1, Or.inr rfl, ?_, fun _ x h1 h2 => by omega, fun _ => rfl⟩
    show g_X7_isApplicable_71 F zKm RM 89 _ J (nI ow) (nI q) 1 (nI i) = _
    unfold g_X7_isApplicable_71
    rw [r0, zbd_s, zd91, zbd_s, zrd_s (by rw [zKm91]; show ow < 5751; omega) (by decide), zbd_s, hWm.1, if_pos (nI_le (by omega) (by omega)), if_pos (Or.inr rfl)]
  | succ d ih =>
    intro i f hi hf
    obtain ⟨f, rfl⟩ : ∃ g, f = g + 1 := ⟨f - 1, by omega⟩
    obtain ⟨v, v1, v2, v3⟩ := ih (i + 1) f (by omega) (by omega)
    have hiW : i < tn W := by omega
    obtain ⟨a1, a2, a3, a4, -⟩ := hW.2.1 i hiW
    have hbase : f_X7_isApplicable_71 F zKm RM 89 (f + 1) J (nI ow) (nI q) 1 (nI i) = if nI (ts W i) = (2 : Int32) then (zbd (zrd zKm J 112 (nI (tg W i))) fun v23 => zbd (f_X7_sort F zKm J RM 89 (nI q) v23) fun v24 => if v24 = (2 : Int32) then (zbd (f_X7_widthOf F zKm J RM 89 (nI ow) (nI i)) fun v2 => if v2 ≤ (0 : Int32) then f_X7_isApplicable_71 F zKm RM 89 f J (nI ow) (nI q) 0 (nI (i + 1)) else some (v, J)) else some (v, J)) else some (v, J) := by
      show g_X7_isApplicable_71 F zKm RM 89 (f_X7_isApplicable_71 F zKm RM 89 f) J (nI ow) (nI q) 1 (nI i) = _
      unfold g_X7_isApplicable_71 f_X7_isApplicable_123 f_X7_isApplicable_124 f_X7_isApplicable_141 f_X7_isApplicable_146
      rw [r0, zbd_s, zd91, zbd_s, zrd_s (by rw [zKm91]; show ow < 5751; omega) (by decide), zbd_s, hWm.1, if_neg (nI_ge (by omega) (by omega)), if_neg (by decide), X7_sort r0 how hWm hn hiW, zbd_s, r30, zbd_s, X7_number r0 how hWm hn hiW, zbd_s, zdr_s (t := 1) (by rw [k113]), zbd_s, if_pos rfl, nI_1, v2]
      rw [if_neg (show ¬ ((1 : Int32) = 0) by decide)]
    have skip : f_X7_isApplicable_71 F zKm RM 89 (f + 1) J (nI ow) (nI q) 1 (nI i) = some (v, J) → ¬ (ts W i = 2 ∧ ts U (fj (tg W i)) = 2 ∧ wdt W fe i = 0) → ∃ v : Int32, (v = 0 ∨ v = 1) ∧ f_X7_isApplicable_71 F zKm RM 89 (f + 1) J (nI ow) (nI q) 1 (nI i) = some (v, J) ∧ (v = 1 ↔ ∀ x, i ≤ x → x < tn W → ts W x = 2 → ts U (fj (tg W x)) = 2 → wdt W fe x ≠ 0) := fun e hno => by
      refine ⟨v, v1, e, ?_⟩
      rw [v3]
      constructor
      · intro h x x1 x2 x3 x4
        by_cases hx : x = i
        · subst hx
          exact fun e => hno ⟨x3, x4, e⟩
        · exact h x (by omega) x2 x3 x4
      · intro h x x1 x2
        exact h x (by omega) x2
    by_cases h2 : ts W i = 2
    · have hg := a4 (by omega)
      have hat := zFF_at hff hT hW hiW (by omega) (hap i hiW (by omega))
      have hj := (hat.2.2.2.2.2.2.2.2.1 h2).1
      have hu4 := (hU.2.1 _ hj).1
      rw [if_pos ((ni2 (by omega)).mpr h2), zrd_s (by rw [k113]; show tg W i < 10; omega) (by rw [k113]; decide), zbd_s, hat.2.2.2.2.1, X7_sort r0 hq hUm hU.1.2.1 hj, zbd_s] at hbase
      by_cases hh : ts U (fj (tg W i)) = 2
      · rw [if_pos ((ni2 (by omega)).mpr hh), X7_widthOf hRM hF how hT hW hWm hiW h93 hff hap, zbd_s] at hbase
        have hwl : wdt W fe i < 2 ^ 31 := by
          unfold wdt
          cases hsq : sqO W i with
          | none => simp only; omega
          | some g =>
            simp only
            obtain ⟨g1, g2⟩ := sqO_lt hsq
            obtain ⟨-, -, c3⟩ := tc_lt hW.1 hiW g1
            obtain ⟨q', x, s1, s2, -⟩ := (zFF_at hff hT hW c3 (by omega) (hap _ c3 (by omega))).2.2.2.2.2.2.2.2.2 g2
            have := (hU.2.1 q' s1).2.1
            omega
        by_cases hz : wdt W fe i = 0
        · rw [hz, if_pos (by decide)] at hbase
          obtain ⟨f, rfl⟩ : ∃ g, f = g + 1 := ⟨f - 1, by omega⟩
          refine ⟨0, Or.inl rfl, ?_, fun e => absurd e (by decide), fun h => absurd hz (h i (Nat.le_refl _) hiW h2 hh)⟩
          rw [hbase]
          show g_X7_isApplicable_71 F zKm RM 89 _ J (nI ow) (nI q) 0 (nI (i + 1)) = _
          unfold g_X7_isApplicable_71
          rw [r0, zbd_s, zd91, zbd_s, zrd_s (by rw [zKm91]; show ow < 5751; omega) (by decide), zbd_s, if_pos rfl, if_pos (Or.inl rfl)]
          by_cases hle : J 90 ow ≤ nI (i + 1)
          · rw [if_pos hle]
          · rw [if_neg hle]
        · rw [if_neg (nI_nle (by omega) hwl)] at hbase
          exact skip hbase (fun h => hz h.2.2)
      · rw [if_neg (fun e => hh ((ni2 (by omega)).mp e))] at hbase
        exact skip hbase (fun h => hh h.2.1)
    · rw [if_neg (fun e => h2 ((ni2 (by omega)).mp e))] at hbase
      exact skip hbase (fun h => h2 h.1)
end ZIA
section ZIB
variable {F : Nat} {K : zK} {I : zI} {R : zR} {J : zI} {RM : zR} {ol ow q m u w : Nat} {T U W : Tm} {fj fc fe : Nat → Nat}
/-- canFill() and isApplicable() -/
theorem applicable_both (hF : 200 ≤ F) (hM : zMk K R m) (h1 : R m 1 = some u) (hRM : zRM RM) (hol : ol + 97 ≤ 5751) (how : ow + 97 ≤ 5751) (hq : q + 97 ≤ 5751) (hT : tWF T) (hU : tWF U) (hW : tWF W) (hUc : zTc K I R u U) (hWc : zTc K I R w W) (hTm : zTm (J 90) ol T) (hUm : zTm (J 90) q U) (hWm : zTm (J 90) ow W) (hff : zFF T U I J m fj fc fe) :
    ∃ (v : Int32) (J' : zI), (v = 0 ∨ v = 1) ∧ f_X1_canFill F K I R m (some w) = some v ∧ f_X7_isApplicable F zKm J RM 89 (nI ol) (nI ow) (nI q) = some (v, J') ∧ (∀ b, b ≠ 92 → J' b = J b) ∧ (v = 1 → zAp1 T W ∧ zAp2 U W fj fe) := by
  have hn := hW.1.2.1
  obtain ⟨v, v1, v2, v3, v4⟩ := canFill2 (F := F) hM h1 hT hU hUc hW hWc hF hff (tn W) 0 F (by omega) (by omega)
  obtain ⟨b, b1, b2, b3⟩ := appl6 (F := F) hRM hF hol how hT hW hTm hWm (nI q) 10 0 F 1 (by decide) (by omega) (Or.inr rfl)
  have hap : b = 1 ↔ zAp1 T W := by
    rw [b2]
    constructor
    · intro h i a1 a2
      exact h.2 (tg W i) (Nat.zero_le _) (by have := (hW.2.1 i a1).2.2.2.1 a2; omega) i a1 a2 rfl
    · exact fun h => ⟨rfl, fun g _ _ i a1 a2 _ => h i a1 a2⟩
  have hJ' : ∀ c, c ≠ 92 → zrw J 92 0 (tn W) (fun j => nI (tsp W j)) c = J c := fun c hc => zrw_ne _ _ _ _ hc
  have hff' : zFF T U I (zrw J 92 0 (tn W) (fun j => nI (tsp W j))) m fj fc fe := fun g hg => by
    have := hff g hg
    rw [hJ' 112 (by decide), hJ' 113 (by decide), hJ' 114 (by decide)]
    exact this
  have eJ : f_X7_isApplicable F zKm J RM 89 (nI ol) (nI ow) (nI q) = f_X7_isApplicable_71 F zKm RM 89 F (zrw J 92 0 (tn W) (fun j => nI (tsp W j))) (nI ow) (nI q) b 0 := b3
  by_cases hA : zAp1 T W
  · have hb := hap.mpr hA
    subst hb
    obtain ⟨v', c1, c2, c3⟩ := appl71 (F := F) hRM hF how hq hT hU hW (by rw [hJ' 90 (by decide)]; exact hWm) (by rw [hJ' 90 (by decide)]; exact hUm) (fun y hy => zrw_in _ _ _ (Nat.zero_le _) hy) hff' hA (tn W) 0 F (by omega) (by omega)
    have hvv : v = v' := by
      have h4 := v4 hA
      rcases v1 with rfl | rfl <;> rcases c1 with rfl | rfl
      · rfl
      · exact absurd (h4.mpr (c3.mp rfl)) (by decide)
      · exact absurd (c3.mpr (h4.mp rfl)) (by decide)
      · rfl
    subst hvv
    exact ⟨v, _, v1, v2, eJ.trans c2, hJ', fun hv => ⟨hA, fun i a1 a2 a3 => (v4 hA).mp hv i (Nat.zero_le _) a1 a2 a3⟩⟩
  · have hb : b = 0 := b1.resolve_right (fun e => hA (hap.mp e))
    subst hb
    have hv : v = 0 := v1.resolve_right (fun e => hA (fun i a1 a2 => v3 e i (Nat.zero_le _) a1 a2))
    subst hv
    refine ⟨0, _, Or.inl rfl, v2, ?_, hJ', fun e => absurd e (by decide)⟩
    rw [eJ]
    obtain ⟨f, hf⟩ : ∃ f, F = f + 1 := ⟨F - 1, by omega⟩
    have r0 : RM 89 0 = some 90 := hRM 89 0 (by decide) (by decide) (by decide)
    have : ∀ f, f_X7_isApplicable_71 F zKm RM 89 (f + 1) (zrw J 92 0 (tn W) (fun j => nI (tsp W j))) (nI ow) (nI q) 0 0 = some (0, zrw J 92 0 (tn W) (fun j => nI (tsp W j))) := fun f => by
      show g_X7_isApplicable_71 F zKm RM 89 _ _ (nI ow) (nI q) 0 0 = _
      unfold g_X7_isApplicable_71
      rw [r0, zbd_s, zd91, zbd_s, zrd_s (by rw [zKm91]; show ow < 5751; omega) (by decide), zbd_s, if_pos rfl, if_pos (Or.inl rfl)]
      by_cases hle : zrw J 92 0 (tn W) (fun j => nI (tsp W j)) 90 ow ≤ (0 : Int32)
      · rw [if_pos hle]
      · rw [if_neg hle]
    have h2 := this f
    rw [← hf] at h2
    exact h2
end ZIB
