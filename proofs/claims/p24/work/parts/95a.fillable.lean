/-! Whether a rule can be applied, on both sides -/
/-- how many arguments node i of W comes to have, by how many terms the holes stand for -/
def wdt (W : Tm) (fe : Nat → Nat) (i : Nat) : Nat := match sqO W i with
  | none => tr W i
  | some g => tr W i - 1 + fe (tg W (tc W i g))
/-- what fills the holes, as numbers -/
def zFF (T U : Tm) (I J : zI) (m : Nat) (fj fc fe : Nat → Nat) : Prop := ∀ g, g < 10 → ((∀ p, p < tn T → ts T p ≠ 0 → tg T p ≠ g) ∧ I (m + 11) g = -1 ∧ J 113 g = -1) ∨ ∃ p, p < tn T ∧ ts T p ≠ 0 ∧ tg T p = g ∧ I (m + 11) g = nI (ts T p) ∧ I (m + 12) g = nI (fj g) ∧ I (m + 13) g = nI (fc g) ∧ I (m + 14) g = nI (fe g) ∧ J 112 g = nI (fj g) ∧ J 113 g = nI (fc g) ∧ J 114 g = nI (fe g) ∧ tFill U (ts T p) (fj g) (fc g) (fe g)
theorem zFF_of {T U : Tm} {I J : zI} {m : Nat} (h : zFl T U I J m (tn T)) : ∃ fj fc fe : Nat → Nat, zFF T U I J m fj fc fe := by
  have hx : ∀ g : Nat, ∃ q : Nat × Nat × Nat, g < 10 → ((∀ p, p < tn T → ts T p ≠ 0 → tg T p ≠ g) ∧ I (m + 11) g = -1 ∧ J 113 g = -1) ∨ ∃ p, p < tn T ∧ ts T p ≠ 0 ∧ tg T p = g ∧ I (m + 11) g = nI (ts T p) ∧ I (m + 12) g = nI q.1 ∧ I (m + 13) g = nI q.2.1 ∧ I (m + 14) g = nI q.2.2 ∧ J 112 g = nI q.1 ∧ J 113 g = nI q.2.1 ∧ J 114 g = nI q.2.2 ∧ tFill U (ts T p) q.1 q.2.1 q.2.2 := fun g => by
    by_cases hg : g < 10
    · rcases h g hg with ⟨a, b, c⟩ | ⟨p, j, c, e, a⟩
      · exact ⟨(0, 0, 0), fun _ => Or.inl ⟨c, a, b⟩⟩
      · exact ⟨(j, c, e), fun _ => Or.inr ⟨p, a⟩⟩
    · exact ⟨(0, 0, 0), fun h => absurd h hg⟩
  obtain ⟨f, hf⟩ := Classical.axiomOfChoice hx
  exact ⟨fun g => (f g).1, fun g => (f g).2.1, fun g => (f g).2.2, fun g hg => hf g hg⟩
/-- each hole of W is one of T, of the same sort -/
def zAp1 (T W : Tm) : Prop := ∀ i, i < tn W → ts W i ≠ 0 → ∃ p, p < tn T ∧ ts T p = ts W i ∧ tg T p = tg W i
section ZCF
variable {F : Nat} {K : zK} {I : zI} {R : zR} {J : zI} {RM : zR} {m t u w ow q i : Nat} {T U W : Tm} {fj fc fe : Nat → Nat}
/-- a hole of W, where zAp1 holds: what both sides hold of its fill -/
theorem zFF_at (hff : zFF T U I J m fj fc fe) (hT : tWF T) (hW : tWF W) (hi : i < tn W) (hs : ts W i ≠ 0) (hp : ∃ p, p < tn T ∧ ts T p = ts W i ∧ tg T p = tg W i) : I (m + 11) (tg W i) = nI (ts W i) ∧ I (m + 12) (tg W i) = nI (fj (tg W i)) ∧ I (m + 13) (tg W i) = nI (fc (tg W i)) ∧ I (m + 14) (tg W i) = nI (fe (tg W i)) ∧ J 112 (tg W i) = nI (fj (tg W i)) ∧ J 113 (tg W i) = nI (fc (tg W i)) ∧ J 114 (tg W i) = nI (fe (tg W i)) ∧ tFill U (ts W i) (fj (tg W i)) (fc (tg W i)) (fe (tg W i)) := by
  obtain ⟨p, p1, p2, p3⟩ := hp
  have hg := (hW.2.1 i hi).2.2.2.1 hs
  rcases hff (tg W i) (by omega) with ⟨a, -⟩ | ⟨p', a1, a2, a3, a4, a5, a6, a7, a8, a9, a10, a11⟩
  · exact absurd p3 (a p p1 (by omega))
  · have : ts T p' = ts T p := hT.2.2.1 p' p a1 p1 a2 (by omega) (by omega)
    rw [this, p2] at a4 a11
    exact ⟨a4, a5, a6, a7, a8, a9, a10, a11⟩
theorem X1_aw_any (hM : zMk K R m) (hW : tWF W) (hWc : zTc K I R w W) (hi : i < tn W) (hF : 200 ≤ F) : ∃ v, f_X1_argumentsWhenFilled F K I R m (some w) (nI i) = some v ∧ (sqO W i = none → v = nI (tr W i)) ∧ ∀ g, sqO W i = some g → v = nI (tr W i - 1) + I (m + 14) (tg W (tc W i g)) := by
  have w15 : (K w).1 = 15 := by rw [hWc.1]
  obtain ⟨hm, km, ⟨k51, k52, k53, k54, k55, k56⟩, r2, r3, r4, r5, r6, r7⟩ := hM
  have hr := (hW.2.1 i hi).2.1
  unfold f_X1_argumentsWhenFilled
  rw [zdr_s w15, zbd_s, X5_argumentsOf hWc hW hi, zbd_s, X5_sequencePlace hWc hW (by omega) hi, zbd_s]
  cases hs : sqO W i with
  | none =>
    refine ⟨nI (tr W i), ?_, fun _ => rfl, fun g h => by cases h⟩
    show (if (0 : Int32) ≤ -1 then _ else _) = _
    rw [if_neg (by decide)]
  | some g =>
    obtain ⟨g1, g2⟩ := sqO_lt hs
    obtain ⟨c1, c2, c3⟩ := tc_lt hW.1 hi g1
    have hg := (hW.2.1 _ c3).2.2.2.1 (by omega)
    refine ⟨nI (tr W i - 1) + I (m + 14) (tg W (tc W i g)), ?_, fun h => (by cases h), fun g' h => by cases h; rfl⟩
    show (if (0 : Int32) ≤ nI g then _ else _) = _
    rw [if_pos (nI_pos' (by omega)), X5_argument hWc hW (by omega) (by omega) (fun x hx => (tc_lt hW.1 hi (show x < tr W i by omega)).2.2), zbd_s, show wk (tsp W) g (i + 1) = tc W i g from rfl, X5_numberOf hWc hW c3, zbd_s, zo_0 (show (0 : Int32) ≤ nI (tg W (tc W i g)) ∧ nI (tg W (tc W i g)) ≤ 9 from ⟨nI_pos' (by omega), nI_le (b := 9) hg (by decide)⟩), zbd_s, if_pos rfl, r7, zbd_s, zdr_s (t := 1) (by rw [k56]), zbd_s, zrd_s (by rw [k56]; show tg W (tc W i g) < 10; omega) (by rw [k56]; decide), zbd_s, nl1, nI_sub (by omega)]
theorem X1_aw (hM : zMk K R m) (hT : tWF T) (hW : tWF W) (hWc : zTc K I R w W) (hi : i < tn W) (hF : 200 ≤ F) (hff : zFF T U I J m fj fc fe) (hap : zAp1 T W) : f_X1_argumentsWhenFilled F K I R m (some w) (nI i) = some (nI (wdt W fe i)) := by
  obtain ⟨v, v1, v2, v3⟩ := X1_aw_any (F := F) hM hW hWc hi hF
  rw [v1]
  unfold wdt
  cases hs : sqO W i with
  | none => rw [v2 hs]
  | some g =>
    obtain ⟨g1, g2⟩ := sqO_lt hs
    obtain ⟨c1, c2, c3⟩ := tc_lt hW.1 hi g1
    have := zFF_at hff hT hW c3 (by omega) (hap _ c3 (by omega))
    rw [v3 g hs, this.2.2.2.1, nI_add]
theorem X7_widthOf (hRM : zRM RM) (hF : 200 ≤ F) (ho : ow + 97 ≤ 5751) (hT : tWF T) (hW : tWF W) (hWm : zTm (J 90) ow W) (hi : i < tn W) (h93 : ∀ y, y < tn W → J 92 y = nI (tsp W y)) (hff : zFF T U I J m fj fc fe) (hap : zAp1 T W) : f_X7_widthOf F zKm J RM 89 (nI ow) (nI i) = some (nI (wdt W fe i)) := by
  have r0 : RM 89 0 = some 90 := hRM 89 0 (by decide) (by decide) (by decide)
  have r5 : RM 89 5 = some 92 := hRM 89 5 (by decide) (by decide) (by decide)
  have r32 : RM 89 32 = some 114 := hRM 89 32 (by decide) (by decide) (by decide)
  have hr := (hW.2.1 i hi).2.1
  have hn := hW.1.2.1
  have k93 : zKm 92 = (1, 32) := rfl
  have k115 : zKm 114 = (1, 10) := rfl
  have key : ∀ (d x f : Nat) (c : Nat), x + d = tr W i → d < f → f_X7_widthOf_10 F zKm J RM 89 f (nI ow) (nI i) (nI c) (nI (tc W i x)) (nI x) = some (nI (match sqf W i d x with | none => c + d | some g => c + d - 1 + fe (tg W (tc W i g)))) := by
    intro d
    induction d with
    | zero =>
      intro x f c hx hf
      obtain ⟨f, rfl⟩ : ∃ g, f = g + 1 := ⟨f - 1, by omega⟩
      show g_X7_widthOf_10 F zKm J RM 89 _ (nI ow) (nI i) (nI c) (nI (tc W i x)) (nI x) = _
      unfold g_X7_widthOf_10
      rw [X7_arguments r0 ho hWm hn hi, zbd_s, if_pos (nI_le (by omega) (by omega))]
      rfl
    | succ d ih =>
      intro x f c hx hf
      obtain ⟨f, rfl⟩ : ∃ g, f = g + 1 := ⟨f - 1, by omega⟩
      obtain ⟨c1, c2, c3⟩ := tc_lt hW.1 hi (show x < tr W i by omega)
      have hs4 := (hW.2.1 _ c3).1
      show g_X7_widthOf_10 F zKm J RM 89 _ (nI ow) (nI i) (nI c) (nI (tc W i x)) (nI x) = _
      unfold g_X7_widthOf_10 f_X7_widthOf_49
      rw [X7_arguments r0 ho hWm hn hi, zbd_s, if_neg (nI_ge (by omega) (by omega)), X7_sort r0 ho hWm hn c3, zbd_s, r5]
      by_cases h3 : ts W (tc W i x) = 3
      · have hg := (hW.2.1 _ c3).2.2.2.1 (by omega)
        have hfe := (zFF_at hff hT hW c3 (by omega) (hap _ c3 (by omega))).2.2.2.2.2.2.1
        have hno : sqf W i d (x + 1) = none := by
          cases hq : sqf W i d (x + 1) with
          | none => rfl
          | some g =>
            obtain ⟨q1, q2, q3⟩ := sqf_lt _ _ _ hq
            have := hW.2.2.2.2 i hi x g (by omega) (by omega) h3 q3
            omega
        rw [if_pos ((ni3 (by omega)).mpr h3), r32, zbd_s, X7_number r0 ho hWm hn c3, zbd_s, zdr_s (t := 1) (by rw [k115]), zbd_s, zrd_s (by rw [k115]; show tg W (tc W i x) < 10; omega) (by rw [k115]; decide), zbd_s, hfe, nI_add, zbd_s, zbd_s, zdr_s (t := 1) (by rw [k93]), zbd_s, zrd_s (by rw [k93]; show tc W i x < 32; omega) (by rw [k93]; decide), zbd_s, h93 _ c3, nI_add, zbd_s, ← tc_succ, nI_1, ih (x + 1) f _ (by omega) (by omega), hno]
        simp only [sqf]
        rw [if_pos h3]
        simp only
        congr 2
        omega
      · rw [if_neg (fun e => h3 ((ni3 (by omega)).mp e)), nI_1, zbd_s, zbd_s, zdr_s (t := 1) (by rw [k93]), zbd_s, zrd_s (by rw [k93]; show tc W i x < 32; omega) (by rw [k93]; decide), zbd_s, h93 _ c3, nI_add, zbd_s, ← tc_succ, nI_1, ih (x + 1) f _ (by omega) (by omega)]
        simp only [sqf]
        rw [if_neg h3]
        cases hq : sqf W i d (x + 1) with
        | none => simp only; congr 2; omega
        | some g => simp only; congr 2; omega
  unfold f_X7_widthOf
  rw [zbd_s, nI_1]
  refine (key (tr W i) 0 F 0 (by omega) (by omega)).trans ?_
  unfold wdt sqO
  cases sqf W i (tr W i) 0 with
  | none => simp only [Nat.zero_add]
  | some g => simp only [Nat.zero_add]
/-- where zAp1 holds: no head hole of the term is left without arguments -/
def zAp2 (U W : Tm) (fj fe : Nat → Nat) : Prop := ∀ i, i < tn W → ts W i = 2 → ts U (fj (tg W i)) = 2 → wdt W fe i ≠ 0
theorem canFill2 (hM : zMk K R m) (h1 : R m 1 = some u) (hT : tWF T) (hU : tWF U) (hUc : zTc K I R u U) (hW : tWF W) (hWc : zTc K I R w W) (hF : 200 ≤ F) (hff : zFF T U I J m fj fc fe) : ∀ (d i f : Nat), i + d = tn W → d < f → ∃ v : Int32, (v = 0 ∨ v = 1) ∧ f_X1_canFill_2 F K I R m f (some w) (nI i) = some v ∧ (v = 1 → ∀ x, i ≤ x → x < tn W → ts W x ≠ 0 → ∃ p, p < tn T ∧ ts T p = ts W x ∧ tg T p = tg W x) ∧ (zAp1 T W → (v = 1 ↔ ∀ x, i ≤ x → x < tn W → ts W x = 2 → ts U (fj (tg W x)) = 2 → wdt W fe x ≠ 0)) := by
  have hM0 := hM
  obtain ⟨hm, km, ⟨k51, k52, k53, k54, k55, k56⟩, r2, r3, r4, r5, r6, r7⟩ := hM
  have w15 : (K w).1 = 15 := by rw [hWc.1]
  have u15 : (K u).1 = 15 := by rw [hUc.1]
  have hn := hW.1.2.1
  intro d
  induction d with
  | zero =>
    intro i f hi hf
    obtain ⟨f, rfl⟩ : ∃ g, f = g + 1 := ⟨f - 1, by omega⟩
    refine ⟨1, Or.inr rfl, ?_, fun _ x h1 h2 => by omega, fun _ => ⟨fun _ x h1 h2 => by omega, fun _ => rfl⟩⟩
    show g_X1_canFill_2 F K I R m _ (some w) (nI i) = _
    unfold g_X1_canFill_2
    rw [zdr_s w15, zbd_s, hWc.2.2.2.2.2.2.2.1, if_pos (nI_le (by omega) (by omega))]
  | succ d ih =>
    intro i f hi hf
    obtain ⟨f, rfl⟩ : ∃ g, f = g + 1 := ⟨f - 1, by omega⟩
    obtain ⟨v, v1, v2, v3, v4⟩ := ih (i + 1) f (by omega) (by omega)
    have hiW : i < tn W := by omega
    obtain ⟨a1, -, a3, a4, -⟩ := hW.2.1 i hiW
    have hgo : f_X1_canFill_2 F K I R m (f + 1) (some w) (nI i) = if nI (ts W i) = (0 : Int32) then some v else (zbd (f_X6_outside F K I R (nI (tg W i)) (9 : Int32)) fun v10 => if v10 = (0 : Int32) then (zbd (zrd K I (m + 11) (nI (tg W i))) fun v17 => if v17 = nI (ts W i) then (if nI (ts W i) = (2 : Int32) then (zbd (zrd K I (m + 12) (nI (tg W i))) fun v25 => zbd (f_X5_sortOf F K I R u v25) fun v29 => if v29 = (2 : Int32) then (zbd (f_X1_argumentsWhenFilled F K I R m (some w) (nI i)) fun v32 => if v32 = (0 : Int32) then some (0 : Int32) else some v) else some v) else some v) else some (0 : Int32)) else some (0 : Int32)) := by
      show g_X1_canFill_2 F K I R m (f_X1_canFill_2 F K I R m f) (some w) (nI i) = _
      unfold g_X1_canFill_2 f_X1_canFill_87
      rw [zdr_s w15, zbd_s, hWc.2.2.2.2.2.2.2.1, if_neg (nI_ge (by omega) (by omega)), X5_sortOf hWc hW hiW, zbd_s, X5_numberOf hWc hW hiW, zbd_s]
      simp only [nI_1, v2, r4, r5, h1, zbd_s, zdr_s (show (K (m + 11)).1 = 1 by rw [k53]), zdr_s (show (K (m + 12)).1 = 1 by rw [k54]), zdr_s u15]
    by_cases h0 : ts W i = 0
    · rw [if_pos ((ni0 (by omega)).mpr h0)] at hgo
      refine ⟨v, v1, hgo, fun hv x x1 x2 x3 => ?_, fun hap => ?_⟩
      · have : x ≠ i := fun e => x3 (by rw [e]; exact h0)
        exact v3 hv x (by omega) x2 x3
      · rw [v4 hap]
        constructor
        · intro h x x1 x2 x3
          have : x ≠ i := fun e => by rw [e] at x3; omega
          exact h x (by omega) x2 x3
        · intro h x x1 x2
          exact h x (by omega) x2
    · have hg := a4 h0
      rw [if_neg (fun e => h0 ((ni0 (by omega)).mp e)), zo_0 (show (0 : Int32) ≤ nI (tg W i) ∧ nI (tg W i) ≤ 9 from ⟨nI_pos' (by omega), nI_le (b := 9) hg (by decide)⟩), zbd_s, if_pos rfl, zrd_s (by rw [k53]; show tg W i < 10; omega) (by rw [k53]; decide), zbd_s] at hgo
      by_cases hs : I (m + 11) (tg W i) = nI (ts W i)
      · rw [if_pos hs] at hgo
        have hp : ∃ p, p < tn T ∧ ts T p = ts W i ∧ tg T p = tg W i := by
          rcases hff (tg W i) (by omega) with ⟨-, b, -⟩ | ⟨p, b1, b2, b3, b4, -⟩
          · rw [b] at hs
            exact absurd hs.symm (nim1 (by omega))
          · have := (hT.2.1 p b1).1
            rw [b4] at hs
            exact ⟨p, b1, nI_inj (by omega) (by omega) hs, b3⟩
        have hat := zFF_at hff hT hW hiW h0 hp
        by_cases h2 : ts W i = 2
        · rw [if_pos ((ni2 (by omega)).mpr h2), zrd_s (by rw [k54]; show tg W i < 10; omega) (by rw [k54]; decide), zbd_s, hat.2.1] at hgo
          have hj := (hat.2.2.2.2.2.2.2.2.1 h2).1
          rw [X5_sortOf hUc hU hj, zbd_s] at hgo
          have hu4 := (hU.2.1 _ hj).1
          by_cases hh : ts U (fj (tg W i)) = 2
          · rw [if_pos ((ni2 (by omega)).mpr hh)] at hgo
            obtain ⟨aw, w1, -⟩ := X1_aw_any (F := F) hM0 hW hWc hiW hF
            rw [w1, zbd_s] at hgo
            by_cases hz : aw = 0
            · rw [if_pos hz] at hgo
              refine ⟨0, Or.inl rfl, hgo, fun e => absurd e (by decide), fun hap => ⟨fun e => absurd e (by decide), fun h => ?_⟩⟩
              exfalso
              have e1 := X1_aw (F := F) hM0 hT hW hWc hiW hF hff hap
              rw [w1, hz] at e1
              refine h i (Nat.le_refl _) hiW h2 hh ?_
              have e2 : nI (wdt W fe i) = (0 : Int32) := (Option.some.inj e1).symm
              have hwl : wdt W fe i < 2 ^ 31 := by
                unfold wdt
                have hr8 := (hW.2.1 i hiW).2.1
                cases hsq : sqO W i with
                | none => simp only; omega
                | some g =>
                  simp only
                  obtain ⟨g1, g2⟩ := sqO_lt hsq
                  obtain ⟨-, -, c3⟩ := tc_lt hW.1 hiW g1
                  obtain ⟨q', x, s1, s2, -⟩ := (zFF_at hff hT hW c3 (by omega) (hap _ c3 (by omega))).2.2.2.2.2.2.2.2.2 g2
                  have := (hU.2.1 q' s1).2.1
                  omega
              exact (ni0 hwl).mp e2
            · rw [if_neg hz] at hgo
              refine ⟨v, v1, hgo, fun hv x x1 x2 x3 => ?_, fun hap => ?_⟩
              · by_cases hx : x = i
                · rw [hx]; exact hp
                · exact v3 hv x (by omega) x2 x3
              · rw [v4 hap]
                have e1 := X1_aw (F := F) hM0 hT hW hWc hiW hF hff hap
                rw [w1] at e1
                constructor
                · intro h x x1 x2 x3 x4
                  by_cases hx : x = i
                  · subst hx
                    intro e
                    rw [e] at e1
                    exact hz (Option.some.inj e1)
                  · exact h x (by omega) x2 x3 x4
                · intro h x x1 x2
                  exact h x (by omega) x2
          · rw [if_neg (fun e => hh ((ni2 (by omega)).mp e))] at hgo
            refine ⟨v, v1, hgo, fun hv x x1 x2 x3 => ?_, fun hap => ?_⟩
            · by_cases hx : x = i
              · rw [hx]; exact hp
              · exact v3 hv x (by omega) x2 x3
            · rw [v4 hap]
              constructor
              · intro h x x1 x2 x3 x4
                have : x ≠ i := fun e => by rw [e] at x4; exact hh x4
                exact h x (by omega) x2 x3 x4
              · intro h x x1 x2
                exact h x (by omega) x2
        · rw [if_neg (fun e => h2 ((ni2 (by omega)).mp e))] at hgo
          refine ⟨v, v1, hgo, fun hv x x1 x2 x3 => ?_, fun hap => ?_⟩
          · by_cases hx : x = i
            · rw [hx]; exact hp
            · exact v3 hv x (by omega) x2 x3
          · rw [v4 hap]
            constructor
            · intro h x x1 x2 x3 x4
              have : x ≠ i := fun e => by rw [e] at x3; exact h2 x3
              exact h x (by omega) x2 x3 x4
            · intro h x x1 x2
              exact h x (by omega) x2
      · rw [if_neg hs] at hgo
        refine ⟨0, Or.inl rfl, hgo, fun e => absurd e (by decide), fun hap => ?_⟩
        exact absurd (zFF_at hff hT hW hiW h0 (hap i hiW h0)).1 hs
end ZCF
