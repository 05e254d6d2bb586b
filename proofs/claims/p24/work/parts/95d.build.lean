/-! Building the new term of apply, on both sides -/
theorem tdp_le {T : Tm} (h : tSh T) : ∀ m j, j ≤ m → j < tn T → tdp T j ≤ j := by
  intro m
  induction m with
  | zero =>
    intro j hj hn
    obtain rfl : j = 0 := by omega
    rw [h.2.2.2.2.2.1]
    exact Nat.le_refl _
  | succ m ih =>
    intro j hj hn
    by_cases h0 : j = 0
    · subst h0
      rw [h.2.2.2.2.2.1]
      exact Nat.le_refl _
    · obtain ⟨i, k, a1, a2, a3, a4⟩ := tch h (show 0 < j by omega) hn
      have := ih i (by omega) a1
      rw [a4, h.2.2.2.2.2.2 i a1 k a3, ← a4]
      omega
section ZGD
variable {F : Nat} {K : zK} {I : zI} {R : zR} {J : zI} {RM : zR} {p : Nat} {P : Tm}
theorem depth_chk (h : zTc K I R p P) (hP : tSh P) (hF : 100 ≤ F) : ∃ D, f_X5_greatestDepth F K I R p = some (nI D) ∧ D ≤ 40 ∧ (7 < D ↔ ∃ y, y < tn P ∧ 7 < tdp P y) := by
  have hn := hP.2.1
  have key : ∀ (d j f c : Nat), j + d = tn P → d < f → c ≤ 40 → ∃ D, f_X5_greatestDepth_4 F K I R p f (nI c) (nI j) = some (nI D) ∧ D ≤ 40 ∧ (7 < D ↔ 7 < c ∨ ∃ y, j ≤ y ∧ y < tn P ∧ 7 < tdp P y) := by
    intro d
    induction d with
    | zero =>
      intro j f c hj hf hc
      obtain ⟨f, rfl⟩ : ∃ g, f = g + 1 := ⟨f - 1, by omega⟩
      refine ⟨c, ?_, hc, fun h => Or.inl h, fun h => ?_⟩
      · show g_X5_greatestDepth_4 F K I R p _ (nI c) (nI j) = _
        unfold g_X5_greatestDepth_4
        rw [h.2.2.2.2.2.2.2.1, if_pos (nI_le (by omega) (by omega))]
      · rcases h with h | ⟨y, h1, h2, -⟩
        · exact h
        · omega
    | succ d ih =>
      intro j f c hj hf hc
      obtain ⟨f, rfl⟩ : ∃ g, f = g + 1 := ⟨f - 1, by omega⟩
      have hjP : j < tn P := by omega
      have hd := tdp_le hP j j (Nat.le_refl _) hjP
      obtain ⟨D, d1, d2, d3⟩ := ih (j + 1) f (if c < tdp P j then tdp P j else c) (by omega) (by omega) (by by_cases h : c < tdp P j <;> simp [h] <;> omega)
      refine ⟨D, ?_, d2, ?_⟩
      · show g_X5_greatestDepth_4 F K I R p _ (nI c) (nI j) = _
        unfold g_X5_greatestDepth_4
        rw [h.2.2.2.2.2.2.2.1, if_neg (nI_ge (by omega) (by omega)), X5_depthOf_k (zTk_of h) hn hjP, (h.2.2.2.2.2.2.2.2 j hjP).2.2, zbd_s, nI_1]
        by_cases hlt : c < tdp P j
        · rw [if_pos hlt] at d1
          rw [if_pos (nI_lt hlt (by omega)), zbd_s]
          exact d1
        · rw [if_neg hlt] at d1
          rw [if_neg (nI_nlt (by omega) (by omega)), zbd_s]
          exact d1
      · rw [d3]
        constructor
        · rintro (h1 | ⟨y, y1, y2, y3⟩)
          · by_cases hlt : c < tdp P j
            · rw [if_pos hlt] at h1
              exact Or.inr ⟨j, Nat.le_refl _, hjP, h1⟩
            · rw [if_neg hlt] at h1
              exact Or.inl h1
          · exact Or.inr ⟨y, by omega, y2, y3⟩
        · rintro (h1 | ⟨y, y1, y2, y3⟩)
          · left
            by_cases hlt : c < tdp P j
            · rw [if_pos hlt]; omega
            · rw [if_neg hlt]; exact h1
          · by_cases hy : y = j
            · subst hy
              left
              by_cases hlt : c < tdp P y
              · rw [if_pos hlt]; exact y3
              · rw [if_neg hlt]; omega
            · exact Or.inr ⟨y, by omega, y2, y3⟩
  obtain ⟨D, d1, d2, d3⟩ := key (tn P) 0 F 0 (by omega) (by omega) (by decide)
  refine ⟨D, d1, d2, ?_⟩
  rw [d3]
  constructor
  · rintro (h1 | ⟨y, -, y2, y3⟩)
    · omega
    · exact ⟨y, y2, y3⟩
  · rintro ⟨y, y2, y3⟩
    exact Or.inr ⟨y, Nat.zero_le _, y2, y3⟩
theorem builds271 (hRM : zRM RM) (hP : tSh P) (h95 : ∀ j, j < tn P → J 94 j = nI (tdp P j)) : ∀ (d j f : Nat) (b : Int32), j + d = tn P → d < f → (b = 0 ∨ b = 1) → ∃ v : Int32, (v = 0 ∨ v = 1) ∧ f_X7_builds_271 F zKm RM 89 f J (nI (tn P)) b (nI j) = some (v, J) ∧ (v = 1 ↔ b = 1 ∧ ∀ y, j ≤ y → y < tn P → tdp P y ≤ 7) := by
  have r7 : RM 89 7 = some 94 := hRM 89 7 (by decide) (by decide) (by decide)
  have k95 : zKm 94 = (1, 32) := rfl
  have hn := hP.2.1
  intro d
  induction d with
  | zero =>
    intro j f b hj hf hb
    obtain ⟨f, rfl⟩ : ∃ g, f = g + 1 := ⟨f - 1, by omega⟩
    refine ⟨b, hb, ?_, fun e => ⟨e, fun y y1 y2 => by omega⟩, fun e => e.1⟩
    show g_X7_builds_271 F zKm RM 89 _ J (nI (tn P)) b (nI j) = _
    unfold g_X7_builds_271
    rw [if_pos (nI_le (by omega) (by omega)), if_pos hb]
  | succ d ih =>
    intro j f b hj hf hb
    obtain ⟨f, rfl⟩ : ∃ g, f = g + 1 := ⟨f - 1, by omega⟩
    have hjP : j < tn P := by omega
    have hd := tdp_le hP j j (Nat.le_refl _) hjP
    have hgo : f_X7_builds_271 F zKm RM 89 (f + 1) J (nI (tn P)) b (nI j) = if b = (0 : Int32) then f_X7_builds_271 F zKm RM 89 f J (nI (tn P)) 0 (nI (j + 1)) else if (7 : Int32) < nI (tdp P j) then f_X7_builds_271 F zKm RM 89 f J (nI (tn P)) 0 (nI (j + 1)) else f_X7_builds_271 F zKm RM 89 f J (nI (tn P)) 1 (nI (j + 1)) := by
      show g_X7_builds_271 F zKm RM 89 _ J (nI (tn P)) b (nI j) = _
      unfold g_X7_builds_271 f_X7_builds_299 f_X7_builds_300
      rw [if_neg (nI_ge (by omega) (by omega)), r7, zbd_s, zdr_s (t := 1) (by rw [k95]), zbd_s, zrd_s (by rw [k95]; show j < 32; omega) (by rw [k95]; decide), zbd_s, h95 j hjP, nI_1]
    have step : ∀ b' : Int32, (b' = 0 ∨ b' = 1) → (b' = 1 ↔ b = 1 ∧ tdp P j ≤ 7) → f_X7_builds_271 F zKm RM 89 (f + 1) J (nI (tn P)) b (nI j) = f_X7_builds_271 F zKm RM 89 f J (nI (tn P)) b' (nI (j + 1)) → ∃ v : Int32, (v = 0 ∨ v = 1) ∧ f_X7_builds_271 F zKm RM 89 (f + 1) J (nI (tn P)) b (nI j) = some (v, J) ∧ (v = 1 ↔ b = 1 ∧ ∀ y, j ≤ y → y < tn P → tdp P y ≤ 7) := fun b' b1 b2 b3 => by
      obtain ⟨v, v1, v2, v3⟩ := ih (j + 1) f b' (by omega) (by omega) b1
      refine ⟨v, v1, b3.trans v2, ?_⟩
      rw [v3, b2]
      constructor
      · rintro ⟨⟨a1, a2⟩, a3⟩
        refine ⟨a1, fun y y1 y2 => ?_⟩
        by_cases hy : y = j
        · rw [hy]; exact a2
        · exact a3 y (by omega) y2
      · rintro ⟨a1, a2⟩
        exact ⟨⟨a1, a2 j (Nat.le_refl _) hjP⟩, fun y y1 y2 => a2 y (by omega) y2⟩
    rcases hb with rfl | rfl
    · rw [if_pos rfl] at hgo
      exact step 0 (Or.inl rfl) ⟨fun e => absurd e (by decide), fun e => absurd e.1 (by decide)⟩ hgo
    · rw [if_neg (by decide)] at hgo
      by_cases h7 : 7 < tdp P j
      · rw [if_pos (show (7 : Int32) < nI (tdp P j) from nI_lt (a := 7) h7 (by omega))] at hgo
        exact step 0 (Or.inl rfl) ⟨fun e => absurd e (by decide), fun e => by omega⟩ hgo
      · rw [if_neg (show ¬ ((7 : Int32) < nI (tdp P j)) from nI_nlt (a := 7) (by omega) (by decide))] at hgo
        exact step 1 (Or.inr rfl) ⟨fun _ => ⟨rfl, by omega⟩, fun _ => rfl⟩ hgo
end ZGD
def labW (W U : Tm) (fj fe : Nat → Nat) (q : Nat) : List (Nat × Bool) := if ts W q = 3 then LF (labU U (tdp W q) (fj (tg W q))) (tsp U) (fe (tg W q)) (fj (tg W q)) else [(tdp W q, false)]
section ZLW
variable {W U T : Tm} {fj fc fe : Nat → Nat}
/-- the fills are there for each hole of W -/
def zFok (W U : Tm) (fj fc fe : Nat → Nat) : Prop := ∀ i, i < tn W → ts W i ≠ 0 → tFill U (ts W i) (fj (tg W i)) (fc (tg W i)) (fe (tg W i))
theorem LFW_len (hW : tWF W) {i : Nat} (hi : i < tn W) : ∀ d x, x + d = tr W i → (LF (labW W U fj fe) (tsp W) d (tc W i x)).length = (match sqf W i d x with | none => d | some g => d - 1 + fe (tg W (tc W i g))) := by
  intro d
  induction d with
  | zero => intro x _; rfl
  | succ d ih =>
    intro x hx
    have h1 := ih (x + 1) (by omega)
    have e : (LF (labW W U fj fe) (tsp W) (d + 1) (tc W i x)).length = (labW W U fj fe (tc W i x)).length + (LF (labW W U fj fe) (tsp W) d (tc W i (x + 1))).length := by
      show (labW W U fj fe (tc W i x) ++ LF (labW W U fj fe) (tsp W) d (tc W i x + tsp W (tc W i x))).length = _
      rw [List.length_append, ← tc_succ]
    rw [e, h1]
    simp only [sqf]
    by_cases h3 : ts W (tc W i x) = 3
    · rw [if_pos h3]
      have hno : sqf W i d (x + 1) = none := by
        cases hq : sqf W i d (x + 1) with
        | none => rfl
        | some g =>
          obtain ⟨q1, q2, q3⟩ := sqf_lt _ _ _ hq
          have := hW.2.2.2.2 i hi x g (by omega) (by omega) h3 q3
          omega
      rw [hno]
      unfold labW
      rw [if_pos h3, LFU_len]
      simp only
      omega
    · rw [if_neg h3]
      have : (labW W U fj fe (tc W i x)).length = 1 := by unfold labW; rw [if_neg h3]; rfl
      rw [this]
      cases hq : sqf W i d (x + 1) with
      | none => simp only; omega
      | some g =>
        simp only
        obtain ⟨q1, q2, q3⟩ := sqf_lt _ _ _ hq
        omega
theorem LFW_wdt (hW : tWF W) {i : Nat} (hi : i < tn W) : (LF (labW W U fj fe) (tsp W) (tr W i) (i + 1)).length = wdt W fe i := (LFW_len (U := U) (fj := fj) (fe := fe) hW hi (tr W i) 0 (by omega)).trans (by unfold wdt sqO; cases sqf W i (tr W i) 0 <;> rfl)
theorem LFW_tr (hW : tWF W) (hU : tWF U) (hok : zFok W U fj fc fe) {i : Nat} (hi : i < tn W) : ∀ d x, x + d = tr W i → nTr (LF (labW W U fj fe) (tsp W) d (tc W i x)) ≤ (match sqO W i with | none => 0 | some g => if x ≤ g then 1 else 0) := by
  intro d
  induction d with
  | zero => intro x _; exact Nat.zero_le _
  | succ d ih =>
    intro x hx
    have h1 := ih (x + 1) (by omega)
    obtain ⟨-, -, c3⟩ := tc_lt hW.1 hi (show x < tr W i by omega)
    have e : nTr (LF (labW W U fj fe) (tsp W) (d + 1) (tc W i x)) = nTr (labW W U fj fe (tc W i x)) + nTr (LF (labW W U fj fe) (tsp W) d (tc W i (x + 1))) := by
      show nTr (labW W U fj fe (tc W i x) ++ LF (labW W U fj fe) (tsp W) d (tc W i x + tsp W (tc W i x))) = _
      rw [nTr_app, ← tc_succ]
    rw [e]
    have h3 : ts W (tc W i x) = 3 → nTr (labW W U fj fe (tc W i x)) ≤ 1 := fun h => by
      obtain ⟨q', x', s1, s2, s3, s4⟩ := (hok _ c3 (by omega)).2.2 h
      unfold labW
      rw [if_pos h]
      have := LFU_one hU (tdp W (tc W i x)) (fj (tg W (tc W i x))) s1 (d := fe (tg W (tc W i x))) (x := x') s2
      rw [← s3] at this
      exact this
    have h4 : ts W (tc W i x) ≠ 3 → nTr (labW W U fj fe (tc W i x)) = 0 := fun h => by unfold labW; rw [if_neg h]; rfl
    cases hs : sqO W i with
    | none =>
      rw [hs] at h1
      rw [h4 (sqO_none hs x (by omega))]
      simp only at h1 ⊢
      omega
    | some g =>
      rw [hs] at h1
      simp only at h1 ⊢
      by_cases hxg : x = g
      · subst hxg
        rw [if_neg (by omega)] at h1
        rw [if_pos (Nat.le_refl _)]
        have := h3 (sqO_lt hs).2
        omega
      · rw [h4 (sqO_ne hW hi hs (by omega) hxg)]
        by_cases h2 : x ≤ g
        · rw [if_pos h2]
          rw [if_pos (by omega)] at h1
          omega
        · rw [if_neg h2]
          rw [if_neg (by omega)] at h1
          omega
theorem LFW_one (hW : tWF W) (hU : tWF U) (hok : zFok W U fj fc fe) {i : Nat} (hi : i < tn W) : oneS (LF (labW W U fj fe) (tsp W) (tr W i) (i + 1)) := by
  refine oneS_of _ ?_
  have := LFW_tr (fj := fj) (fe := fe) hW hU hok hi (tr W i) 0 (by omega)
  cases hs : sqO W i with
  | none => rw [hs] at this; simp only at this; exact Nat.le_trans this (by decide)
  | some g =>
    rw [hs] at this
    simp only at this
    rw [if_pos (Nat.zero_le _)] at this
    exact this
theorem LFW_dep (hW : tWF W) (hU : tWF U) (hok : zFok W U fj fc fe) {i : Nat} (hi : i < tn W) : ∀ x, x ∈ LF (labW W U fj fe) (tsp W) (tr W i) (i + 1) → x.1 = tdp W i + 1 := by
  intro x hx
  obtain ⟨z, z1, z2⟩ := LF_mem _ _ hx
  have hd := hW.1.2.2.2.2.2.2 i hi z z1
  obtain ⟨-, -, c3⟩ := tc_lt hW.1 hi z1
  have z2 : x ∈ labW W U fj fe (tc W i z) := z2
  unfold labW at z2
  by_cases h3 : ts W (tc W i z) = 3
  · rw [if_pos h3] at z2
    obtain ⟨q', x', s1, s2, s3, s4⟩ := (hok _ c3 (by omega)).2.2 h3
    obtain ⟨y, y1, y2⟩ := LF_mem _ _ z2
    have y3 := List.mem_singleton.mp y2
    have e1 : wk (tsp U) y (fj (tg W (tc W i z))) = tc U q' (x' + y) := by rw [s3]; exact (wk_add _ _ _ _).symm
    have e2 := hU.1.2.2.2.2.2.2 q' s1 (x' + y) (by omega)
    have e3 := hU.1.2.2.2.2.2.2 q' s1 x' (by omega)
    rw [y3]
    show tdp W (tc W i z) + tdp U (wk (tsp U) y (fj (tg W (tc W i z)))) - tdp U (fj (tg W (tc W i z))) = _
    rw [e1, e2, s3, e3, hd]
    omega
  · rw [if_neg h3] at z2
    rw [List.mem_singleton.mp z2]
    exact hd
end ZLW
