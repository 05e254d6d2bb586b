/-! isLeast: what the class asks of the fillings -/
/-- fills by hole: sort (0: none), first node, nodes, terms -/
def zGG (U : Tm) (I J : zI) (m : Nat) (fs fj fc fe : Nat → Nat) : Prop := ∀ g, g < 10 → (fs g = 0 ∧ I (m + 11) g = -1 ∧ J 113 g = -1) ∨ ((fs g = 1 ∨ fs g = 2 ∨ fs g = 3) ∧ I (m + 11) g = nI (fs g) ∧ I (m + 12) g = nI (fj g) ∧ I (m + 13) g = nI (fc g) ∧ I (m + 14) g = nI (fe g) ∧ J 112 g = nI (fj g) ∧ J 113 g = nI (fc g) ∧ J 114 g = nI (fe g) ∧ tFill U (fs g) (fj g) (fc g) (fe g))
/-- the sorts of T's holes -/
def zHs2 (T : Tm) (fs : Nat → Nat) : Prop := ∀ g, (fs g = 0 ∧ ∀ p, p < tn T → ts T p ≠ 0 → tg T p ≠ g) ∨ ∃ p, p < tn T ∧ ts T p ≠ 0 ∧ tg T p = g ∧ fs g = ts T p
theorem zHs2_of (T : Tm) : ∃ fs, zHs2 T fs := by
  have hx : ∀ g : Nat, ∃ s : Nat, (s = 0 ∧ ∀ p, p < tn T → ts T p ≠ 0 → tg T p ≠ g) ∨ ∃ p, p < tn T ∧ ts T p ≠ 0 ∧ tg T p = g ∧ s = ts T p := fun g => by
    rcases Classical.em (∃ p, p < tn T ∧ ts T p ≠ 0 ∧ tg T p = g) with ⟨p, p1, p2, p3⟩ | h
    · exact ⟨ts T p, Or.inr ⟨p, p1, p2, p3, rfl⟩⟩
    · exact ⟨0, Or.inl ⟨rfl, fun p p1 p2 p3 => h ⟨p, p1, p2, p3⟩⟩⟩
  obtain ⟨f, hf⟩ := Classical.axiomOfChoice hx
  exact ⟨f, hf⟩
theorem zGG_of {T U : Tm} {I J : zI} {m : Nat} {fs fj fc fe : Nat → Nat} (hT : tWF T) (hs : zHs2 T fs) (h : zFF T U I J m fj fc fe) : zGG U I J m fs fj fc fe := fun g hg => by
  rcases h g hg with ⟨a, b, c⟩ | ⟨p, p1, p2, p3, b⟩
  · rcases hs g with ⟨s1, -⟩ | ⟨p, p1, p2, p3, -⟩
    · exact Or.inl ⟨s1, b, c⟩
    · exact absurd p3 (a p p1 p2)
  · rcases hs g with ⟨-, s2⟩ | ⟨p', q1, q2, q3, q4⟩
    · exact absurd p3 (s2 p p1 p2)
    · have e : fs g = ts T p := by rw [q4]; exact hT.2.2.1 p' p q1 p1 q2 p2 (by omega)
      have := (hT.2.1 p p1).1
      rw [← e] at b p2
      exact Or.inr ⟨by omega, b⟩
/-- the last term of a sequence -/
abbrev lastU (U : Tm) (fj fe : Nat → Nat) (h : Nat) : Nat := wk (tsp U) (fe h - 1) (fj h)
theorem tSeg_last {U : Tm} (hU : tSh U) {j c e : Nat} (h : tSeg U j c e) (he : 0 < e) : j < tn U ∧ wk (tsp U) (e - 1) j < tn U ∧ (∀ k, k < e - 1 → wk (tsp U) k j < tn U) ∧ 1 ≤ j ∧ 0 < c := by
  obtain ⟨q, x, s1, s2, s3, s4⟩ := h
  have e1 : ∀ k, wk (tsp U) k j = tc U q (x + k) := fun k => by rw [s3]; exact (wk_add _ _ _ _).symm
  have h1 := tc_lt hU s1 (show x < tr U q by omega)
  have h2 := tc_lt' hU (i := q) (show x < x + e by omega)
  refine ⟨by rw [s3]; exact h1.2.2, by rw [e1]; exact (tc_lt hU s1 (by omega)).2.2, fun k hk => by rw [e1]; exact (tc_lt hU s1 (by omega)).2.2, by omega, by omega⟩
theorem tSeg_0 {U : Tm} (hU : tSh U) {j c e : Nat} (h : tSeg U j c e) : e = 0 ↔ c = 0 := by
  constructor
  · intro he
    obtain ⟨q, x, s1, s2, s3, s4⟩ := h
    rw [he, Nat.add_zero] at s4
    omega
  · intro hc
    rcases Nat.eq_zero_or_pos e with he | he
    · exact he
    · have := (tSeg_last hU h he).2.2.2.2
      omega
section ZNW
variable {F : Nat} {K : zK} {I : zI} {R : zR} {J J' : zI} {m m' u u' h g : Nat} {A B : Tm} {fs fj fc fe gj gc ge : Nat → Nat}
/-- what must hold of one matcher's object -/
def zMo (K : zK) (I : zI) (R : zR) (J : zI) (m u : Nat) (A : Tm) (fs fj fc fe : Nat → Nat) : Prop := zMk K R m ∧ R m 1 = some u ∧ tWF A ∧ zTc K I R u A ∧ zGG A I J m fs fj fc fe
def sFil (A : Tm) (fs fj fc : Nat → Nat) (g h : Nat) : Prop := fs g ≠ 0 ∧ fs g = fs h ∧ fc g = fc h ∧ (if fs g = 2 then ts A (fj g) = ts A (fj h) ∧ tg A (fj g) = tg A (fj h) else tSame A (fj g) A (fj h) (fc g))
theorem zh_bounds (hA : tWF A) (hG : zGG A I J m fs fj fc fe) (hh : h < 10) (h0 : fs h ≠ 0) : (fs h = 1 ∨ fs h = 2 ∨ fs h = 3) ∧ I (m + 11) h = nI (fs h) ∧ I (m + 12) h = nI (fj h) ∧ I (m + 13) h = nI (fc h) ∧ I (m + 14) h = nI (fe h) ∧ J 112 h = nI (fj h) ∧ J 113 h = nI (fc h) ∧ J 114 h = nI (fe h) ∧ tFill A (fs h) (fj h) (fc h) (fe h) ∧ fj h + fc h ≤ tn A ∧ fe h ≤ 32 := by
  rcases hG h hh with ⟨a, -⟩ | ⟨a1, a2, a3, a4, a5, a6, a7, a8, a9⟩
  · exact absurd a h0
  · refine ⟨a1, a2, a3, a4, a5, a6, a7, a8, a9, (tFill_le hA.1 a1 a9).1, ?_⟩
    rcases a1 with e | e | e
    · have := (a9.1 e).2.2.2; omega
    · have := (a9.2.1 e).2.2.2; omega
    · obtain ⟨q, x, s1, s2, -⟩ := a9.2.2 e
      have := (hA.2.1 q s1).2.1
      omega
theorem X1_sameFilling (hF : 200 ≤ F) (hO : zMo K I R J m u A fs fj fc fe) (hg : g < 10) (hh : h < 10) : ∃ v : Int32, (v = 0 ∨ v = 1) ∧ f_X1_sameFilling F K I R m (nI g) (nI h) = some v ∧ (v = 1 ↔ sFil A fs fj fc g h) := by
  obtain ⟨hM, h1, hA, hAc, hG⟩ := hO
  obtain ⟨hm, km, ⟨k51, k52, k53, k54, k55, k56⟩, r2, r3, r4, r5, r6, r7⟩ := hM
  have u15 : (K u).1 = 15 := by rw [hAc.1]
  have hn := hA.1.2.1
  have rd : ∀ x, x = m + 11 ∨ x = m + 12 ∨ x = m + 13 ∨ x = m + 14 → (K x).1 = 1 ∧ ∀ y, y < 10 → zrd K I x (nI y) = some (I x y) := fun x hx => by
    rcases hx with rfl | rfl | rfl | rfl
    · exact ⟨by rw [k53], fun y hy => zrd_s (by rw [k53]; exact hy) (by rw [k53]; decide)⟩
    · exact ⟨by rw [k54], fun y hy => zrd_s (by rw [k54]; exact hy) (by rw [k54]; decide)⟩
    · exact ⟨by rw [k55], fun y hy => zrd_s (by rw [k55]; exact hy) (by rw [k55]; decide)⟩
    · exact ⟨by rw [k56], fun y hy => zrd_s (by rw [k56]; exact hy) (by rw [k56]; decide)⟩
  have o : ∀ y, y < 10 → f_X6_outside F K I R (nI y) (9 : Int32) = some 0 := fun y hy => zo_0 ⟨nI_pos' (by omega), nI_le (b := 9) (by omega) (by decide)⟩
  have eC : f_X1_sameFilling F K I R m (nI g) (nI h) = if I (m + 11) g = (-1 : Int32) then some (0 : Int32) else if I (m + 11) g = I (m + 11) h then (if I (m + 13) g = I (m + 13) h then (if I (m + 11) g = (2 : Int32) then (zbd (f_X5_headOf F K I R u (I (m + 12) g)) fun v73 => zbd (f_X5_headOf F K I R u (I (m + 12) h)) fun v84 => if v73 = v84 then some (1 : Int32) else some (0 : Int32)) else (zbd (f_X5_compareNodes F K I R u (I (m + 12) g) (some u) (I (m + 12) h) (I (m + 13) g)) fun v61 => if v61 = (0 : Int32) then some (1 : Int32) else some (0 : Int32))) else some (0 : Int32)) else some (0 : Int32) := by
    unfold f_X1_sameFilling
    rw [o g hg, zbd_s, if_pos rfl, o h hh, zbd_s, if_pos rfl]
    simp only [r4, r5, r6, h1, zbd_s, zdr_s u15, zdr_s (rd (m + 11) (by omega)).1, zdr_s (rd (m + 12) (by omega)).1, zdr_s (rd (m + 13) (by omega)).1, (rd (m + 11) (by omega)).2 g hg, (rd (m + 11) (by omega)).2 h hh, (rd (m + 12) (by omega)).2 g hg, (rd (m + 12) (by omega)).2 h hh, (rd (m + 13) (by omega)).2 g hg, (rd (m + 13) (by omega)).2 h hh]
  rw [eC]
  by_cases hg0 : fs g = 0
  · rcases hG g hg with ⟨-, b, -⟩ | ⟨a, -⟩
    · exact ⟨0, Or.inl rfl, by rw [if_pos b], fun e => absurd e (by decide), fun e => absurd hg0 e.1⟩
    · omega
  · obtain ⟨a1, a2, a3, a4, a5, -, -, -, a9, a10, -⟩ := zh_bounds hA hG hg hg0
    rw [a2, if_neg (nim1 (by omega))]
    by_cases hh0 : fs h = 0
    · rcases hG h hh with ⟨-, b, -⟩ | ⟨a, -⟩
      · rw [b, if_neg (nim1 (by omega))]
        exact ⟨0, Or.inl rfl, rfl, fun e => absurd e (by decide), fun e => absurd (e.2.1.trans hh0) hg0⟩
      · omega
    · obtain ⟨b1, b2, b3, b4, b5, -, -, -, b9, b10, -⟩ := zh_bounds hA hG hh hh0
      rw [b2, a4, b4, a3, b3]
      by_cases hss : fs g = fs h
      · rw [if_pos (by rw [hss])]
        by_cases hcc : fc g = fc h
        · rw [if_pos (by rw [hcc])]
          by_cases h2 : fs g = 2
          · rw [if_pos ((ni2 (by omega)).mpr h2)]
            have hjg := (a9.2.1 h2).1
            have hjh := (b9.2.1 (by omega)).1
            obtain ⟨w1, -, w3, w4, -⟩ := hA.2.1 _ hjg
            obtain ⟨z1, -, z3, z4, -⟩ := hA.2.1 _ hjh
            have t1 : tg A (fj g) ≤ 12 := by
              by_cases h0 : ts A (fj g) = 0
              · exact w3 h0
              · have := w4 h0; omega
            have t2 : tg A (fj h) ≤ 12 := by
              by_cases h0 : ts A (fj h) = 0
              · exact z3 h0
              · have := z4 h0; omega
            rw [X5_headOf hAc hA hjg, zbd_s, X5_headOf hAc hA hjh, zbd_s]
            by_cases hl : ts A (fj g) = ts A (fj h) ∧ tg A (fj g) = tg A (fj h)
            · exact ⟨1, Or.inr rfl, by rw [if_pos (by rw [hl.1, hl.2])], fun _ => ⟨hg0, hss, hcc, by rw [if_pos h2]; exact hl⟩, fun _ => rfl⟩
            · refine ⟨0, Or.inl rfl, by rw [if_neg (fun e => hl (by have := nI_inj (by omega) (by omega) e; omega))], fun e => absurd e (by decide), fun e => ?_⟩
              have := e.2.2.2
              rw [if_pos h2] at this
              exact absurd this hl
          · rw [if_neg (fun e => h2 ((ni2 (by omega)).mp e))]
            obtain ⟨r, e1, e2⟩ := X5_compareNodes (F := F) (by omega) hAc hAc hA hA a10 (show fj h + fc g ≤ tn A by omega)
            rw [e1, zbd_s]
            by_cases hr : r = 0
            · exact ⟨1, Or.inr rfl, by rw [if_pos hr], fun _ => ⟨hg0, hss, hcc, by rw [if_neg h2]; exact e2.mp hr⟩, fun _ => rfl⟩
            · refine ⟨0, Or.inl rfl, by rw [if_neg hr], fun e => absurd e (by decide), fun e => ?_⟩
              have := e.2.2.2
              rw [if_neg h2] at this
              exact absurd (e2.mpr this) hr
        · rw [if_neg (fun e => hcc (nI_inj (by omega) (by omega) e))]
          exact ⟨0, Or.inl rfl, rfl, fun e => absurd e (by decide), fun e => absurd e.2.2.1 hcc⟩
      · rw [if_neg (fun e => hss (nI_inj (by omega) (by omega) e))]
        exact ⟨0, Or.inl rfl, rfl, fun e => absurd e (by decide), fun e => absurd e.2.1 hss⟩
theorem canMerge2 (hF : 200 ≤ F) (hO : zMo K I R J m u A fs fj fc fe) (hO' : zMo K I R J' m' u' B fs gj gc ge) (hh : h < 10) : ∀ (d g f : Nat), g + d = h → d < f → ∃ v : Int32, (v = 0 ∨ v = 1) ∧ f_X1_canMerge_2 F K I R m f (nI h) (some m') (nI g) = some v ∧ (v = 1 ↔ ∃ x, g ≤ x ∧ x < h ∧ sFil A fs fj fc x h ∧ sFil B fs gj gc x h) := by
  intro d
  induction d with
  | zero =>
    intro g f hg hf
    obtain ⟨f, rfl⟩ : ∃ y, f = y + 1 := ⟨f - 1, by omega⟩
    refine ⟨0, Or.inl rfl, ?_, fun e => absurd e (by decide), fun ⟨x, x1, x2, _⟩ => by omega⟩
    show g_X1_canMerge_2 F K I R m _ (nI h) (some m') (nI g) = _
    unfold g_X1_canMerge_2
    rw [if_pos (nI_le (by omega) (by omega))]
  | succ d ih =>
    intro g f hg hf
    obtain ⟨f, rfl⟩ : ∃ y, f = y + 1 := ⟨f - 1, by omega⟩
    obtain ⟨v, v1, v2, v3⟩ := ih (g + 1) f (by omega) (by omega)
    obtain ⟨a, a1, a2, a3⟩ := X1_sameFilling (F := F) hF hO (show g < 10 by omega) hh
    obtain ⟨b, b1, b2, b3⟩ := X1_sameFilling (F := F) hF hO' (show g < 10 by omega) hh
    have km' : (K m').1 = 11 := by rw [hO'.1.2.1]
    have hgo : f_X1_canMerge_2 F K I R m (f + 1) (nI h) (some m') (nI g) = if a = (0 : Int32) then some v else if b = (0 : Int32) then some v else some 1 := by
      show g_X1_canMerge_2 F K I R m (f_X1_canMerge_2 F K I R m f) (nI h) (some m') (nI g) = _
      unfold g_X1_canMerge_2 f_X1_canMerge_33
      rw [if_neg (nI_ge (by omega) (by omega)), if_neg (show ¬ ((10 : Int32) ≤ nI g) from nI_ge (b := 10) (by omega) (by decide)), a2, zbd_s, zdr_s km', zbd_s, b2, zbd_s, nI_1, v2]
    have skip : ¬ (sFil A fs fj fc g h ∧ sFil B fs gj gc g h) → (v = 1 ↔ ∃ x, g ≤ x ∧ x < h ∧ sFil A fs fj fc x h ∧ sFil B fs gj gc x h) := fun hno => by
      rw [v3]
      constructor
      · rintro ⟨x, x1, x2, x3⟩
        exact ⟨x, by omega, x2, x3⟩
      · rintro ⟨x, x1, x2, x3⟩
        by_cases hx : x = g
        · rw [hx] at x3; exact absurd x3 hno
        · exact ⟨x, by omega, x2, x3⟩
    rcases a1 with rfl | rfl
    · exact ⟨v, v1, by rw [hgo, if_pos rfl], skip (fun e => absurd (a3.mpr e.1) (by decide))⟩
    · rcases b1 with rfl | rfl
      · exact ⟨v, v1, by rw [hgo, if_neg (by decide), if_pos rfl], skip (fun e => absurd (b3.mpr e.2) (by decide))⟩
      · exact ⟨1, Or.inr rfl, by rw [hgo, if_neg (by decide), if_neg (by decide)], fun _ => ⟨g, Nat.le_refl _, by omega, a3.mp rfl, b3.mp rfl⟩, fun _ => rfl⟩
/-- one symbol on both sides -/
def sSym (A B : Tm) (i j : Nat) : Prop := ts A i = 0 ∧ ts B j = 0 ∧ tg A i = tg B j
theorem X1_sameSymbol (hM : zMk K R m) (hM' : zMk K R m') (h1 : R m 1 = some u) (h1' : R m' 1 = some u') (hA : tWF A) (hB : tWF B) (hAc : zTc K I R u A) (hBc : zTc K I R u' B) {i j : Nat} (hi : i < tn A) (hj : j < tn B) : ∃ v : Int32, (v = 0 ∨ v = 1) ∧ f_X1_sameSymbol F K I R m (nI i) (some m') (nI j) = some v ∧ (v = 1 ↔ sSym A B i j) := by
  obtain ⟨w1, -, w3, w4, -⟩ := hA.2.1 i hi
  obtain ⟨z1, -, z3, z4, -⟩ := hB.2.1 j hj
  have t2 : tg B j ≤ 12 := by
    by_cases h0 : ts B j = 0
    · exact z3 h0
    · have := z4 h0; omega
  have eC : f_X1_sameSymbol F K I R m (nI i) (some m') (nI j) = if nI (ts A i) = (0 : Int32) then (if nI (ts A i * 16 + tg A i) = nI (ts B j * 16 + tg B j) then some 1 else some 0) else some 0 := by
    unfold f_X1_sameSymbol
    rw [h1, zbd_s, zdr_s (t := 15) (by rw [hAc.1]), zbd_s, X5_sortOf hAc hA hi, zbd_s, zbd_s, zdr_s (t := 15) (by rw [hAc.1]), zbd_s, X5_headOf hAc hA hi, zbd_s, zdr_s (t := 11) (by rw [hM'.2.1]), zbd_s, h1', zbd_s, zdr_s (t := 15) (by rw [hBc.1]), zbd_s, X5_headOf hBc hB hj, zbd_s]
  rw [eC]
  unfold sSym
  by_cases h0 : ts A i = 0
  · have := w3 h0
    rw [if_pos ((ni0 (by omega)).mpr h0)]
    by_cases h2 : ts B j = 0 ∧ tg A i = tg B j
    · exact ⟨1, Or.inr rfl, by rw [if_pos (by rw [h0, h2.1, h2.2])], fun _ => ⟨h0, h2.1, h2.2⟩, fun _ => rfl⟩
    · exact ⟨0, Or.inl rfl, by rw [if_neg (fun e => h2 (by have := nI_inj (by omega) (by omega) e; omega))], fun e => absurd e (by decide), fun e => absurd e.2 h2⟩
  · exact ⟨0, Or.inl rfl, by rw [if_neg (fun e => h0 ((ni0 (by omega)).mp e))], fun e => absurd e (by decide), fun e => absurd e.1 h0⟩
theorem X1_begins (hO : zMo K I R J m u A fs fj fc fe) (hh : h < 10) (h3 : fs h = 3) : ∃ v : Int32, (v = 0 ∨ v = 1) ∧ f_X1_beginsWithTerm F K I R m (nI h) = some v ∧ (v = 1 ↔ 0 < fe h ∧ ts A (fj h) ≠ 3) := by
  obtain ⟨hM, h1, hA, hAc, hG⟩ := hO
  obtain ⟨hm, km, ⟨k51, k52, k53, k54, k55, k56⟩, r2, r3, r4, r5, r6, r7⟩ := hM
  obtain ⟨a1, a2, a3, a4, a5, -, -, -, a9, a10, a11⟩ := zh_bounds hA hG hh (by omega)
  have hsg := a9.2.2 h3
  unfold f_X1_beginsWithTerm
  rw [r7, zbd_s, zdr_s (t := 1) (by rw [k56]), zbd_s, zrd_s (by rw [k56]; exact hh) (by rw [k56]; decide), zbd_s, a5, h1, zbd_s, r5, zbd_s, zdr_s (t := 1) (by rw [k54]), zbd_s, zrd_s (by rw [k54]; exact hh) (by rw [k54]; decide), zbd_s, a3, zdr_s (t := 15) (by rw [hAc.1]), zbd_s]
  by_cases he : 0 < fe h
  · have hj := (tSeg_last hA.1 hsg he).1
    have hs4 := (hA.2.1 _ hj).1
    rw [if_neg (nI_nle he (by omega)), X5_sortOf hAc hA hj, zbd_s]
    by_cases h33 : ts A (fj h) = 3
    · exact ⟨0, Or.inl rfl, by rw [if_pos ((ni3 (by omega)).mpr h33)], fun e => absurd e (by decide), fun e => absurd h33 e.2⟩
    · exact ⟨1, Or.inr rfl, by rw [if_neg (fun e => h33 ((ni3 (by omega)).mp e))], fun _ => ⟨he, h33⟩, fun _ => rfl⟩
  · exact ⟨0, Or.inl rfl, by rw [if_pos (show nI (fe h) ≤ (0 : Int32) from nI_le (b := 0) (by omega) (by decide))], fun e => absurd e (by decide), fun e => absurd e.1 he⟩
theorem X1_ends (hF : 200 ≤ F) (hO : zMo K I R J m u A fs fj fc fe) (hh : h < 10) (h3 : fs h = 3) : ∃ v : Int32, (v = 0 ∨ v = 1) ∧ f_X1_endsWithTerm F K I R m (nI h) = some v ∧ (v = 1 ↔ 0 < fe h ∧ ts A (lastU A fj fe h) ≠ 3) := by
  obtain ⟨hM, h1, hA, hAc, hG⟩ := hO
  obtain ⟨hm, km, ⟨k51, k52, k53, k54, k55, k56⟩, r2, r3, r4, r5, r6, r7⟩ := hM
  obtain ⟨a1, a2, a3, a4, a5, -, -, -, a9, a10, a11⟩ := zh_bounds hA hG hh (by omega)
  have hsg := a9.2.2 h3
  have hn := hA.1.2.1
  unfold f_X1_endsWithTerm
  rw [h1, zbd_s, r5, zbd_s, zdr_s (t := 1) (by rw [k54]), zbd_s, zrd_s (by rw [k54]; exact hh) (by rw [k54]; decide), zbd_s, a3, r7, zbd_s, zdr_s (t := 1) (by rw [k56]), zbd_s, zrd_s (by rw [k56]; exact hh) (by rw [k56]; decide), zbd_s, a5, zdr_s (t := 15) (by rw [hAc.1]), zbd_s]
  by_cases he : 0 < fe h
  · obtain ⟨hj, hl, hk, hj1, -⟩ := tSeg_last hA.1 hsg he
    have hs4 : ts A (lastU A fj fe h) ≤ 3 := (hA.2.1 _ hl).1
    have harg : f_X5_argument F K I R u (nI (fj h - 1)) (nI (fe h - 1)) = some (nI (lastU A fj fe h)) := by
      have := X5_argument (F := F) hAc hA (by omega) (i := fj h - 1) (m := fe h - 1) (by omega) (fun k hk2 => by rw [show fj h - 1 + 1 = fj h by omega]; exact hk k hk2)
      rw [show fj h - 1 + 1 = fj h by omega] at this
      exact this
    rw [nl1, nI_sub hj1, nI_sub (show 1 ≤ fe h by omega), harg, zbd_s, zbd_s, zdr_s (t := 1) (by rw [k56]), zbd_s, zrd_s (by rw [k56]; exact hh) (by rw [k56]; decide), zbd_s, a5, if_neg (nI_nle he (by omega)), zbd_s, zdr_s (t := 15) (by rw [hAc.1]), zbd_s, X5_sortOf hAc hA hl, zbd_s]
    by_cases h33 : ts A (lastU A fj fe h) = 3
    · exact ⟨0, Or.inl rfl, by rw [if_pos ((ni3 (by omega)).mpr h33)], fun e => absurd e (by decide), fun e => absurd h33 e.2⟩
    · exact ⟨nI 1, Or.inr rfl, by rw [if_neg (fun e => h33 ((ni3 (by omega)).mp e))], fun _ => ⟨he, h33⟩, fun _ => rfl⟩
  · have h0 : fe h = 0 := by omega
    have harg : ∃ v, f_X5_argument F K I R u (nI (fj h) - (1 : Int32)) (nI (fe h) - (1 : Int32)) = some v := by
      rw [h0]
      obtain ⟨y, hy⟩ : ∃ y, F = y + 1 := ⟨F - 1, by omega⟩
      refine ⟨nI (fj h) - 1 + 1, ?_⟩
      unfold f_X5_argument
      rw [zbd_s, hy]
      show g_X5_argument_7 (y + 1) K I R u _ (nI 0 - 1) _ 0 = _
      unfold g_X5_argument_7
      rw [if_pos (by decide)]
    obtain ⟨v, hv⟩ := harg
    refine ⟨0, Or.inl rfl, ?_, fun e => absurd e (by decide), fun e => absurd e.1 he⟩
    rw [hv, zbd_s, zbd_s, zdr_s (t := 1) (by rw [k56]), zbd_s, zrd_s (by rw [k56]; exact hh) (by rw [k56]; decide), zbd_s, a5, if_pos (show nI (fe h) ≤ (0 : Int32) from nI_le (b := 0) (by omega) (by decide))]
/-- a step narrows hole h, with both terms still covered -/
def cNar (A B : Tm) (fs fj fe gj ge : Nat → Nat) (h : Nat) : Prop :=
  (fs h = 1 ∧ sSym A B (fj h) (gj h) ∧ tr A (fj h) = tr B (gj h) ∧ sqO A (fj h) = none ∧ sqO B (gj h) = none) ∨ (fs h = 2 ∧ sSym A B (fj h) (gj h)) ∨
  (fs h = 3 ∧ ((fe h = 0 ∧ ge h = 0) ∨ ((0 < fe h ∧ ts A (fj h) ≠ 3) ∧ 0 < ge h ∧ ts B (gj h) ≠ 3) ∨ ((0 < fe h ∧ ts A (lastU A fj fe h) ≠ 3) ∧ 0 < ge h ∧ ts B (lastU B gj ge h) ≠ 3)))
theorem X1_canNarrow (hF : 200 ≤ F) (hO : zMo K I R J m u A fs fj fc fe) (hO' : zMo K I R J' m' u' B fs gj gc ge) (hh : h < 10) : ∃ v : Int32, (v = 0 ∨ v = 1) ∧ f_X1_canNarrow F K I R m (nI h) (some m') = some v ∧ (v = 1 ↔ cNar A B fs fj fe gj ge h) := by
  have hb := X1_begins (F := F) hO hh
  have hb' := X1_begins (F := F) hO' hh
  have hen := X1_ends (F := F) hF hO hh
  have hen' := X1_ends (F := F) hF hO' hh
  obtain ⟨hM, h1, hA, hAc, hG⟩ := hO
  obtain ⟨hM', h1', hB, hBc, hG'⟩ := hO'
  have hM0 := hM
  have hM0' := hM'
  obtain ⟨hm, km, ⟨k51, k52, k53, k54, k55, k56⟩, r2, r3, r4, r5, r6, r7⟩ := hM
  obtain ⟨hm', km', ⟨l51, l52, l53, l54, l55, l56⟩, q2, q3, q4, q5, q6, q7⟩ := hM'
  have u15 : (K u).1 = 15 := by rw [hAc.1]
  have u15' : (K u').1 = 15 := by rw [hBc.1]
  have km1 : (K m').1 = 11 := by rw [km']
  have e147 : f_X1_canNarrow_147 F K I R m (nI h) (some m') = (zbd (f_X1_beginsWithTerm F K I R m (nI h)) fun v10 => if v10 = (0 : Int32) then f_X1_canNarrow_163 F K I R m (nI h) (some m') else (zbd (f_X1_beginsWithTerm F K I R m' (nI h)) fun v16 => if v16 = (0 : Int32) then f_X1_canNarrow_163 F K I R m (nI h) (some m') else some 1)) := by
    unfold f_X1_canNarrow_147
    simp only [zdr_s km1, zbd_s]
    rfl
  have e163 : f_X1_canNarrow_163 F K I R m (nI h) (some m') = (zbd (f_X1_endsWithTerm F K I R m (nI h)) fun v1 => if v1 = (0 : Int32) then some (0 : Int32) else (zbd (f_X1_endsWithTerm F K I R m' (nI h)) fun v7 => if v7 = (0 : Int32) then some (0 : Int32) else some 1)) := by
    unfold f_X1_canNarrow_163
    simp only [zdr_s km1, zbd_s]
    rfl
  have eC : f_X1_canNarrow F K I R m (nI h) (some m') = if I (m + 11) h = 1 then (zbd (f_X1_sameSymbol F K I R m (I (m + 12) h) (some m') (I (m' + 12) h)) fun v40 => if v40 = (0 : Int32) then some (0 : Int32) else (zbd (f_X5_argumentsOf F K I R u (I (m + 12) h)) fun v47 => zbd (f_X5_argumentsOf F K I R u' (I (m' + 12) h)) fun v53 => if v47 = v53 then (zbd (f_X5_sequencePlace F K I R u (I (m + 12) h)) fun v60 => if (0 : Int32) ≤ v60 then some (0 : Int32) else (zbd (f_X5_sequencePlace F K I R u' (I (m' + 12) h)) fun v67 => if (0 : Int32) ≤ v67 then some (0 : Int32) else some (1 : Int32))) else some (0 : Int32))) else if I (m + 11) h = 2 then (zbd (f_X1_sameSymbol F K I R m (I (m + 12) h) (some m') (I (m' + 12) h)) fun v71 => if v71 = 0 ∨ v71 = 1 then some v71 else none) else if I (m + 11) h = 3 then (if I (m + 14) h = (0 : Int32) then (if I (m' + 14) h = (0 : Int32) then some 1 else f_X1_canNarrow_147 F K I R m (nI h) (some m')) else f_X1_canNarrow_147 F K I R m (nI h) (some m')) else some (0 : Int32) := by
    unfold f_X1_canNarrow f_X1_canNarrow_179
    rw [zo_0 (show (0 : Int32) ≤ nI h ∧ nI h ≤ 9 from ⟨nI_pos' (by omega), nI_le (b := 9) (by omega) (by decide)⟩), zbd_s, if_pos rfl]
    simp only [r4, r5, r7, q5, q7, h1, h1', zbd_s, zdr_s u15, zdr_s u15', zdr_s km1, zdr_s (show (K (m + 11)).1 = 1 by rw [k53]), zdr_s (show (K (m + 12)).1 = 1 by rw [k54]), zdr_s (show (K (m + 14)).1 = 1 by rw [k56]), zdr_s (show (K (m' + 12)).1 = 1 by rw [l54]), zdr_s (show (K (m' + 14)).1 = 1 by rw [l56]), zrd_s (K := K) (I := I) (a := m + 11) (j := h) (by rw [k53]; exact hh) (by rw [k53]; decide), zrd_s (K := K) (I := I) (a := m + 12) (j := h) (by rw [k54]; exact hh) (by rw [k54]; decide), zrd_s (K := K) (I := I) (a := m + 14) (j := h) (by rw [k56]; exact hh) (by rw [k56]; decide), zrd_s (K := K) (I := I) (a := m' + 12) (j := h) (by rw [l54]; exact hh) (by rw [l54]; decide), zrd_s (K := K) (I := I) (a := m' + 14) (j := h) (by rw [l56]; exact hh) (by rw [l56]; decide)]
  rw [eC]
  by_cases h0 : fs h = 0
  · rcases hG h hh with ⟨-, b, -⟩ | ⟨a, -⟩
    · rw [b, if_neg (by decide), if_neg (by decide), if_neg (by decide)]
      refine ⟨0, Or.inl rfl, rfl, fun e => absurd e (by decide), fun e => ?_⟩
      rcases e with e | e | e
      · omega
      · omega
      · omega
    · omega
  · obtain ⟨a1, a2, a3, a4, a5, -, -, -, a9, a10, a11⟩ := zh_bounds hA hG hh h0
    obtain ⟨-, -, b3, b4, b5, -, -, -, b9, b10, b11⟩ := zh_bounds hB hG' hh h0
    have hs8 : fs h < 2 ^ 31 := by omega
    rw [a2, a3, b3, a5, b5]
    rcases a1 with hs | hs | hs
    · rw [if_pos ((ni1 hs8).mpr hs)]
      obtain ⟨hi, -⟩ := a9.1 hs
      obtain ⟨hj, -⟩ := b9.1 hs
      have hr1 := (hA.2.1 _ hi).2.1
      have hr2 := (hB.2.1 _ hj).2.1
      obtain ⟨v, v1, v2, v3⟩ := X1_sameSymbol (F := F) hM0 hM0' h1 h1' hA hB hAc hBc hi hj
      rw [v2, zbd_s]
      have hiff : cNar A B fs fj fe gj ge h ↔ sSym A B (fj h) (gj h) ∧ tr A (fj h) = tr B (gj h) ∧ sqO A (fj h) = none ∧ sqO B (gj h) = none := by
        unfold cNar
        constructor
        · rintro (e | e | e)
          · exact e.2
          · omega
          · omega
        · exact fun e => Or.inl ⟨hs, e⟩
      rcases v1 with rfl | rfl
      · exact ⟨0, Or.inl rfl, by rw [if_pos rfl], fun e => absurd e (by decide), fun e => absurd (v3.mpr (hiff.mp e).1) (by decide)⟩
      · rw [if_neg (by decide), X5_argumentsOf hAc hA hi, zbd_s, X5_argumentsOf hBc hB hj, zbd_s, X5_sequencePlace hAc hA (by omega) hi, zbd_s, X5_sequencePlace hBc hB (by omega) hj, zbd_s]
        have hsy := v3.mp rfl
        by_cases hr : tr A (fj h) = tr B (gj h)
        · rw [if_pos (by rw [hr])]
          cases hq : sqO A (fj h) with
          | some y =>
            have := (sqO_lt hq).1
            refine ⟨0, Or.inl rfl, ?_, fun e => absurd e (by decide), fun e => ?_⟩
            · show (if (0 : Int32) ≤ nI y then some (0 : Int32) else _) = _
              rw [if_pos (nI_pos' (by omega))]
            · have := (hiff.mp e).2.2.1
              rw [hq] at this; cases this
          | none =>
            cases hq' : sqO B (gj h) with
            | some y =>
              have := (sqO_lt hq').1
              refine ⟨0, Or.inl rfl, ?_, fun e => absurd e (by decide), fun e => ?_⟩
              · show (if (0 : Int32) ≤ -1 then some (0 : Int32) else if (0 : Int32) ≤ nI y then some (0 : Int32) else some 1) = _
                rw [if_neg (by decide), if_pos (nI_pos' (by omega))]
              · have := (hiff.mp e).2.2.2
                rw [hq'] at this; cases this
            | none => exact ⟨1, Or.inr rfl, rfl, fun _ => hiff.mpr ⟨hsy, hr, hq, hq'⟩, fun _ => rfl⟩
        · rw [if_neg (fun e => hr (nI_inj (by omega) (by omega) e))]
          exact ⟨0, Or.inl rfl, rfl, fun e => absurd e (by decide), fun e => absurd (hiff.mp e).2.1 hr⟩
    · rw [if_neg (fun e => by have := (ni1 hs8).mp e; omega), if_pos ((ni2 hs8).mpr hs)]
      obtain ⟨hi, -⟩ := a9.2.1 hs
      obtain ⟨hj, -⟩ := b9.2.1 hs
      obtain ⟨v, v1, v2, v3⟩ := X1_sameSymbol (F := F) hM0 hM0' h1 h1' hA hB hAc hBc hi hj
      refine ⟨v, v1, by rw [v2, zbd_s, if_pos v1], ?_⟩
      rw [v3]
      unfold cNar
      constructor
      · exact fun e => Or.inr (Or.inl ⟨hs, e⟩)
      · rintro (e | e | e)
        · omega
        · exact e.2
        · omega
    · rw [if_neg (fun e => by have := (ni1 hs8).mp e; omega), if_neg (fun e => by have := (ni2 hs8).mp e; omega), if_pos ((ni3 hs8).mpr hs)]
      obtain ⟨v, v1, v2, v3⟩ := hb hs
      obtain ⟨v', v1', v2', v3'⟩ := hb' hs
      obtain ⟨e, e1, e2, e3⟩ := hen hs
      obtain ⟨e', e1', e2', e3'⟩ := hen' hs
      rw [e147, e163, v2, zbd_s, v2', zbd_s, e2, zbd_s, e2', zbd_s]
      have hiff : cNar A B fs fj fe gj ge h ↔ (fe h = 0 ∧ ge h = 0) ∨ (v = 1 ∧ v' = 1) ∨ (e = 1 ∧ e' = 1) := by
        rw [v3, v3', e3, e3']
        unfold cNar
        constructor
        · rintro (x | x | x)
          · omega
          · omega
          · exact x.2
        · exact fun x => Or.inr (Or.inr ⟨hs, x⟩)
      have hfin : ∃ z : Int32, (z = 0 ∨ z = 1) ∧ (if v = (0 : Int32) then (if e = (0 : Int32) then some (0 : Int32) else if e' = (0 : Int32) then some (0 : Int32) else some 1) else (if v' = (0 : Int32) then (if e = (0 : Int32) then some (0 : Int32) else if e' = (0 : Int32) then some (0 : Int32) else some 1) else some 1)) = some z ∧ (z = 1 ↔ (v = 1 ∧ v' = 1) ∨ (e = 1 ∧ e' = 1)) := by
        rcases v1 with rfl | rfl <;> rcases v1' with rfl | rfl <;> rcases e1 with rfl | rfl <;> rcases e1' with rfl | rfl <;> first | exact ⟨0, Or.inl rfl, rfl, by decide⟩ | exact ⟨1, Or.inr rfl, rfl, by decide⟩
      obtain ⟨z, z1, z2, z3⟩ := hfin
      by_cases hfe : fe h = 0
      · rw [if_pos ((ni0 (by omega)).mpr hfe)]
        by_cases hge : ge h = 0
        · rw [if_pos ((ni0 (by omega)).mpr hge)]
          exact ⟨1, Or.inr rfl, rfl, fun _ => hiff.mpr (Or.inl ⟨hfe, hge⟩), fun _ => rfl⟩
        · rw [if_neg (fun e => hge ((ni0 (by omega)).mp e)), z2]
          refine ⟨z, z1, rfl, ?_⟩
          rw [z3, hiff]
          constructor
          · exact fun x => Or.inr x
          · exact fun x => x.resolve_left (fun y => hge y.2)
      · rw [if_neg (fun e => hfe ((ni0 (by omega)).mp e)), z2]
        refine ⟨z, z1, rfl, ?_⟩
        rw [z3, hiff]
        constructor
        · exact fun x => Or.inr x
        · exact fun x => x.resolve_left (fun y => hfe y.1)
end ZNW
