/-! What the reference pushes for the arguments of a node of the pattern -/
def zEn (J : zI) (s : Nat) (e : Int32 × Int32 × Int32 × Int32 × Int32) : Prop := J 107 s = e.1 ∧ J 108 s = e.2.1 ∧ J 110 s = e.2.2.1 ∧ J 109 s = e.2.2.2.1 ∧ J 111 s = e.2.2.2.2
/-- the stack from s on is new, all else is as it was -/
def zFr (s : Nat) (J J' : zI) : Prop := (∀ b, b ≠ 89 → (b < 107 ∨ 111 < b) → J' b = J b) ∧ (∀ k, k ≠ 29 → J' 89 k = J 89 k) ∧ ∀ b, 107 ≤ b → b ≤ 111 → ∀ k, k < s → J' b k = J b k
theorem zFr_refl (s : Nat) (J : zI) : zFr s J J := ⟨fun _ _ _ => rfl, fun _ _ => rfl, fun _ _ _ _ _ => rfl⟩
theorem zFr_trans {s s' : Nat} {J J' J'' : zI} (h : zFr s J J') (h2 : zFr s' J' J'') (hs : s ≤ s') : zFr s J J'' := ⟨fun b h3 h4 => by rw [h2.1 b h3 h4, h.1 b h3 h4], fun k hk => by rw [h2.2.1 k hk, h.2.1 k hk], fun b h3 h4 k hk => by rw [h2.2.2 b h3 h4 k (by omega), h.2.2 b h3 h4 k hk]⟩
theorem zEn_fr {s s' : Nat} {J J' : zI} {e : Int32 × Int32 × Int32 × Int32 × Int32} (h : zEn J s e) (h2 : zFr s' J J') (hs : s < s') : zEn J' s e := by
  obtain ⟨h3, h4, h5, h6, h7⟩ := h
  exact ⟨by rw [h2.2.2 107 (by decide) (by decide) s hs]; exact h3, by rw [h2.2.2 108 (by decide) (by decide) s hs]; exact h4, by rw [h2.2.2 110 (by decide) (by decide) s hs]; exact h5, by rw [h2.2.2 109 (by decide) (by decide) s hs]; exact h6, by rw [h2.2.2 111 (by decide) (by decide) s hs]; exact h7⟩
theorem zPush_all (J : zI) (s : Nat) (e : Int32 × Int32 × Int32 × Int32 × Int32) : zFr s J (zPush J s e) ∧ zPush J s e 89 29 = nI (s + 1) ∧ zEn (zPush J s e) s e := by
  unfold zFr zEn zPush
  refine ⟨⟨fun b h1 h2 => ?_, fun k hk => ?_, fun b h1 h2 k hk => ?_⟩, zup_self _ _ _ _, ?_, ?_, ?_, ?_, ?_⟩
  · rw [zup_ne _ _ _ (by omega), zup_ne _ _ _ (by omega), zup_ne _ _ _ (by omega), zup_ne _ _ _ (by omega), zup_ne _ _ _ (by omega), zup_ne _ _ _ (by omega)]
  · rw [zup_self_ne _ _ _ hk, zup_ne _ _ _ (by decide), zup_ne _ _ _ (by decide), zup_ne _ _ _ (by decide), zup_ne _ _ _ (by decide), zup_ne _ _ _ (by decide)]
  · simp only [zup]
    rw [if_neg (by omega), if_neg (by omega), if_neg (by omega), if_neg (by omega), if_neg (by omega), if_neg (by omega)]
  all_goals simp [zup]
section ZPU
variable {F : Nat} {RM : zR} {i j : Nat} {T U : Tm}
theorem even5 (hRM : zRM RM) (hF : 100 ≤ F) (hT : tWF T) (hU : tWF U) (hi : i < tn T) (hj : j < tn U) : ∀ (x f s : Nat) (J : zI), J 89 29 = nI s → s + x ≤ 160 → x < f → x ≤ tr T i → x ≤ tr U j → (∀ y, y < tn T → J 92 y = nI (tsp T y)) → (∀ y, y < tn U → J 93 y = nI (tsp U y)) →
    ∃ J', (f_X7_pushesEven_5 F zKm RM 89 f J (nI i) (nI j) (nI x + (-1)) = some J' ∧ f_X7_matchesArguments_204 F zKm RM 89 f J (nI i) (nI j) (nI x + (-1)) = some (1, J')) ∧ zFr s J J' ∧ J' 89 29 = nI (s + x) ∧ ∀ y, y < x → zEn J' (s + (x - 1 - y)) (0, nI (tc T i y), 0, nI (tc U j y), 0) := by
  have r5 : RM 89 5 = some 92 := hRM 89 5 (by decide) (by decide) (by decide)
  have r6 : RM 89 6 = some 93 := hRM 89 6 (by decide) (by decide) (by decide)
  have k93 : zKm 92 = (1, 32) := rfl
  have k94 : zKm 93 = (1, 32) := rfl
  have hr := (hT.2.1 i hi).2.1
  have hrU := (hU.2.1 j hj).2.1
  intro x
  induction x with
  | zero =>
    intro f s J hs hs2 hf _ _ _ _
    obtain ⟨f, rfl⟩ : ∃ g, f = g + 1 := ⟨f - 1, by omega⟩
    refine ⟨J, ⟨?_, ?_⟩, zFr_refl _ _, hs, fun y hy => by omega⟩
    · show g_X7_pushesEven_5 F zKm RM 89 _ J (nI i) (nI j) (nI 0 + (-1)) = _
      unfold g_X7_pushesEven_5
      rw [if_pos (by decide)]
    · show g_X7_matchesArguments_204 F zKm RM 89 _ J (nI i) (nI j) (nI 0 + (-1)) = _
      unfold g_X7_matchesArguments_204
      rw [if_pos (by decide)]
  | succ x ih =>
    intro f s J hs hs2 hf hx hx2 h93 h94
    obtain ⟨f, rfl⟩ : ∃ g, f = g + 1 := ⟨f - 1, by omega⟩
    obtain ⟨p1, p2, p3⟩ := zPush_all J s (0, nI (tc T i x), 0, nI (tc U j x), 0)
    obtain ⟨J', ⟨q1, q2⟩, q3, q4, q5⟩ := ih f (s + 1) _ p2 (by omega) (by omega) (by omega) (by omega) (fun y hy => by rw [p1.1 92 (by decide) (by decide)]; exact h93 y hy) (fun y hy => by rw [p1.1 93 (by decide) (by decide)]; exact h94 y hy)
    have c1 : f_X7_child F zKm J RM 89 (nI i) (nI x) (some 92) = some (nI (tc T i x)) := X7_child k93 hT hF h93 (by omega) (fun k hk => (tc_lt hT.1 hi (show k < tr T i by omega)).2.2)
    have c2 : f_X7_child F zKm J RM 89 (nI j) (nI x) (some 93) = some (nI (tc U j x)) := X7_child k94 hU hF h94 (by omega) (fun k hk => (tc_lt hU.1 hj (show k < tr U j by omega)).2.2)
    refine ⟨J', ⟨?_, ?_⟩, zFr_trans p1 q3 (by omega), by rw [q4]; congr 1; omega, fun y hy => ?_⟩
    · show g_X7_pushesEven_5 F zKm RM 89 _ J (nI i) (nI j) (nI (x + 1) + (-1)) = _
      unfold g_X7_pushesEven_5
      rw [nI_m1, if_neg (nI_pos (by omega)), r5, zbd_s, c1, zbd_s, r6, zbd_s, c2, zbd_s, X7_pushes hRM (by omega) hs (Or.inl rfl), zbd_s]
      exact q1
    · show g_X7_matchesArguments_204 F zKm RM 89 _ J (nI i) (nI j) (nI (x + 1) + (-1)) = _
      unfold g_X7_matchesArguments_204
      rw [nI_m1, if_neg (nI_pos (by omega)), r5, zbd_s, c1, zbd_s, r6, zbd_s, c2, zbd_s, X7_pushes hRM (by omega) hs (Or.inl rfl), zbd_s]
      exact q2
    · by_cases hy2 : y = x
      · subst hy2
        rw [show s + (y + 1 - 1 - y) = s by omega]
        exact zEn_fr p3 q3 (by omega)
      · have := q5 y (by omega)
        rw [show s + 1 + (x - 1 - y) = s + (x + 1 - 1 - y) by omega] at this
        exact this
/-- behind the sequence hole at g: the arguments from the last one on, then the hole, then those before it -/
theorem gap88 (hRM : zRM RM) (hF : 100 ≤ F) (hT : tWF T) (hU : tWF U) (hi : i < tn T) (hj : j < tn U) {g : Nat} (hg : g < tr T i) (hfit : tr T i ≤ tr U j + 1) : ∀ (d x f s : Nat) (J : zI), x + d + 1 + g = tr T i → J 89 29 = nI s → s + d + 1 + g ≤ 160 → d < f → (∀ y, y < tn T → J 92 y = nI (tsp T y)) → (∀ y, y < tn U → J 93 y = nI (tsp U y)) →
    ∃ J', f_X7_matchesArguments_88 F zKm RM 89 f J (nI i) (nI j) (nI (tr T i)) (nI (tr U j)) (nI g) (nI (tr T i - 1 - g)) (nI x) = some (1, J') ∧ zFr s J J' ∧ J' 89 29 = nI (s + d + 1 + g) ∧ (∀ y, g < y → y + x < tr T i → zEn J' (s + (tr T i - 1 - x - y)) (0, nI (tc T i y), 0, nI (tc U j (y + tr U j - tr T i)), 0)) ∧ zEn J' (s + d) (1, nI (tc T i g), nI (tr U j + 1 - tr T i), nI (tc U j g), nI (tc U j (g + (tr U j + 1 - tr T i)) - tc U j g)) ∧ ∀ y, y < g → zEn J' (s + d + 1 + (g - 1 - y)) (0, nI (tc T i y), 0, nI (tc U j y), 0) := by
  have r5 : RM 89 5 = some 92 := hRM 89 5 (by decide) (by decide) (by decide)
  have r6 : RM 89 6 = some 93 := hRM 89 6 (by decide) (by decide) (by decide)
  have k93 : zKm 92 = (1, 32) := rfl
  have k94 : zKm 93 = (1, 32) := rfl
  have hr := (hT.2.1 i hi).2.1
  have hrU := (hU.2.1 j hj).2.1
  intro d
  induction d with
  | zero =>
    intro x f s J hx hs hs2 hf h93 h94
    obtain ⟨f, rfl⟩ : ∃ g, f = g + 1 := ⟨f - 1, by omega⟩
    obtain ⟨p1, p2, p3⟩ := zPush_all J s (1, nI (tc T i g), nI (tr U j + 1 - tr T i), nI (tc U j g), nI (tc U j (g + (tr U j + 1 - tr T i)) - tc U j g))
    obtain ⟨J', ⟨q1, q2⟩, q3, q4, q5⟩ := even5 (F := F) hRM hF hT hU hi hj g F (s + 1) _ p2 (by omega) (by omega) (by omega) (by omega) (fun y hy => by rw [p1.1 92 (by decide) (by decide)]; exact h93 y hy) (fun y hy => by rw [p1.1 93 (by decide) (by decide)]; exact h94 y hy)
    have c1 : f_X7_child F zKm J RM 89 (nI i) (nI g) (some 92) = some (nI (tc T i g)) := X7_child k93 hT hF h93 (by omega) (fun k hk => (tc_lt hT.1 hi (show k < tr T i by omega)).2.2)
    have c2 : f_X7_child F zKm J RM 89 (nI j) (nI g) (some 93) = some (nI (tc U j g)) := X7_child k94 hU hF h94 (by omega) (fun k hk => (tc_lt hU.1 hj (show k < tr U j by omega)).2.2)
    have c3 : f_X7_child F zKm J RM 89 (nI j) (nI (g + (tr U j + 1 - tr T i))) (some 93) = some (nI (tc U j (g + (tr U j + 1 - tr T i)))) := X7_child k94 hU hF h94 (by omega) (fun k hk => (tc_lt hU.1 hj (show k < tr U j by omega)).2.2)
    have hv : ∀ a, a < 9 → ∀ b, b < 9 → b ≤ a + 1 → (nI a - nI b + 1 : Int32) = nI (a + 1 - b) := by decide +kernel
    refine ⟨J', ?_, zFr_trans p1 q3 (by omega), by rw [q4], fun y hy1 hy2 => by omega, zEn_fr p3 q3 (by omega), fun y hy => by
      have := q5 y hy
      rw [show s + 0 + 1 + (g - 1 - y) = s + 1 + (g - 1 - y) by omega]
      exact this⟩
    show g_X7_matchesArguments_88 F zKm RM 89 _ J (nI i) (nI j) (nI (tr T i)) (nI (tr U j)) (nI g) (nI (tr T i - 1 - g)) (nI x) = _
    unfold g_X7_matchesArguments_88
    rw [if_pos (nI_le (by omega) (by omega)), r6, zbd_s, c2, zbd_s, r5, zbd_s, c1, zbd_s, zbd_s, nI_sub (by omega), show tr U j - (tr T i - 1 - g) = g + (tr U j + 1 - tr T i) by omega, c3, zbd_s, hv _ (by omega) _ (by omega) hfit, nI_sub (tc_mono (by omega)), X7_pushes hRM (by omega) hs (Or.inr rfl), zbd_s, Int32.sub_eq_add_neg, zbd_s]
    exact q2
  | succ d ih =>
    intro x f s J hx hs hs2 hf h93 h94
    obtain ⟨f, rfl⟩ : ∃ g, f = g + 1 := ⟨f - 1, by omega⟩
    obtain ⟨p1, p2, p3⟩ := zPush_all J s (0, nI (tc T i (tr T i - 1 - x)), 0, nI (tc U j (tr U j - 1 - x)), 0)
    obtain ⟨J', q1, q2, q3, q4, q5, q6⟩ := ih (x + 1) f (s + 1) _ (by omega) p2 (by omega) (by omega) (fun y hy => by rw [p1.1 92 (by decide) (by decide)]; exact h93 y hy) (fun y hy => by rw [p1.1 93 (by decide) (by decide)]; exact h94 y hy)
    have c1 : f_X7_child F zKm J RM 89 (nI i) (nI (tr T i - 1 - x)) (some 92) = some (nI (tc T i (tr T i - 1 - x))) := X7_child k93 hT hF h93 (by omega) (fun k hk => (tc_lt hT.1 hi (show k < tr T i by omega)).2.2)
    have c2 : f_X7_child F zKm J RM 89 (nI j) (nI (tr U j - 1 - x)) (some 93) = some (nI (tc U j (tr U j - 1 - x))) := X7_child k94 hU hF h94 (by omega) (fun k hk => (tc_lt hU.1 hj (show k < tr U j by omega)).2.2)
    refine ⟨J', ?_, zFr_trans p1 q2 (by omega), by rw [q3]; congr 1; omega, fun y hy1 hy2 => ?_, by rw [show s + (d + 1) = s + 1 + d by omega]; exact q5, fun y hy => by rw [show s + (d + 1) + 1 = s + 1 + d + 1 by omega]; exact q6 y hy⟩
    · show g_X7_matchesArguments_88 F zKm RM 89 _ J (nI i) (nI j) (nI (tr T i)) (nI (tr U j)) (nI g) (nI (tr T i - 1 - g)) (nI x) = _
      unfold g_X7_matchesArguments_88
      rw [if_neg (nI_ge (by omega) (by omega)), r5, zbd_s, nl1, nI_sub (show 1 ≤ tr T i by omega), nI_sub (show x ≤ tr T i - 1 by omega), c1, zbd_s, r6, zbd_s, nI_sub (show 1 ≤ tr U j by omega), nI_sub (show x ≤ tr U j - 1 by omega), c2, zbd_s, X7_pushes hRM (by omega) hs (Or.inl rfl), zbd_s, nI_add]
      exact q1
    · by_cases hy : y + (x + 1) < tr T i
      · have := q4 y hy1 hy
        rw [show s + 1 + (tr T i - 1 - (x + 1) - y) = s + (tr T i - 1 - x - y) by omega] at this
        exact this
      · have e1 : y = tr T i - 1 - x := by omega
        have e2 : y + tr U j - tr T i = tr U j - 1 - x := by omega
        rw [show s + (tr T i - 1 - x - y) = s by omega, e1, show tr T i - 1 - x + tr U j - tr T i = tr U j - 1 - x by omega]
        exact zEn_fr p3 q2 (by omega)
end ZPU
/-- the entry for argument y of node i of the pattern -/
def zAe (U T : Tm) (i j y : Nat) : Int32 × Int32 × Int32 × Int32 × Int32 := if ts T (tc T i y) = 3 then (1, nI (tc T i y), nI (ztk U T i j y), nI (tc U j (zte U T i j y)), nI (tc U j (zte U T i j y + ztk U T i j y) - tc U j (zte U T i j y))) else (0, nI (tc T i y), 0, nI (tc U j (zte U T i j y)), 0)
section ZPV
variable {F : Nat} {RM : zR} {J : zI} {i j o q s : Nat} {T U : Tm}
/-- matchesArguments() as a whole -/
theorem X7_place (hRM : zRM RM) (hF : 100 ≤ F) (ho : o + 97 ≤ 5751) (hq : q + 97 ≤ 5751) (hT : tWF T) (hU : tWF U) (hTm : zTm (J 90) o T) (hUm : zTm (J 90) q U) (hi : i < tn T) (hj : j < tn U) (hs : J 89 29 = nI s) (hs2 : s + tr T i ≤ 160) (h93 : ∀ y, y < tn T → J 92 y = nI (tsp T y)) (h94 : ∀ y, y < tn U → J 93 y = nI (tsp U y)) :
    (¬ zfit U T i j ∧ f_X7_matchesArguments F zKm J RM 89 (nI o) (nI i) (nI q) (nI j) = some (0, J)) ∨ (zfit U T i j ∧ ∃ J', f_X7_matchesArguments F zKm J RM 89 (nI o) (nI i) (nI q) (nI j) = some (1, J') ∧ zFr s J J' ∧ J' 89 29 = nI (s + tr T i) ∧ ∀ y, y < tr T i → zEn J' (s + (tr T i - 1 - y)) (zAe U T i j y)) := by
  have r0 : RM 89 0 = some 90 := hRM 89 0 (by decide) (by decide) (by decide)
  have r5 : RM 89 5 = some 92 := hRM 89 5 (by decide) (by decide) (by decide)
  have k93 : zKm 92 = (1, 32) := rfl
  have hr := (hT.2.1 i hi).2.1
  have hrU := (hU.2.1 j hj).2.1
  have hgo : ∀ g : Option Nat, sqO T i = g → f_X7_matchesArguments F zKm J RM 89 (nI o) (nI i) (nI q) (nI j) = if (match g with | none => (-9 : Int32) | some k => nI k) = (-9 : Int32) then (if nI (tr T i) = nI (tr U j) then (zbd (f_X7_pushesEven F zKm J RM 89 (nI i) (nI j) (nI (tr U j))) fun I43 => f_X7_matchesArguments_52 F zKm RM 89 I43 (nI (tr T i)) (nI (tr U j))) else f_X7_matchesArguments_52 F zKm RM 89 J (nI (tr T i)) (nI (tr U j))) else (zbd (some ((nI (tr T i) - (1 : Int32)) - (match g with | none => (-9 : Int32) | some k => nI k))) fun v40 => if (nI (tr T i) - (1 : Int32)) ≤ nI (tr U j) then f_X7_matchesArguments_88 F zKm RM 89 F J (nI i) (nI j) (nI (tr T i)) (nI (tr U j)) (match g with | none => (-9 : Int32) | some k => nI k) v40 (0 : Int32) else some ((0 : Int32), J)) := fun g hg => by
    unfold f_X7_matchesArguments
    rw [X7_arguments r0 ho hTm hT.1.2.1 hi, zbd_s, X7_arguments r0 hq hUm hU.1.2.1 hj, zbd_s, r5, zbd_s, X7_sequenceOf r0 ho hTm k93 hT hF h93 hi, zbd_s, hg]
    cases g <;> rfl
  cases hsq : sqO T i with
  | none =>
    have hgo := hgo none hsq
    simp only [↓reduceIte] at hgo
    by_cases hf : tr T i = tr U j
    · right
      refine ⟨by unfold zfit; simp only [hsq]; exact hf, ?_⟩
      obtain ⟨J', ⟨q1, -⟩, q3, q4, q5⟩ := even5 (F := F) hRM hF hT hU hi hj (tr U j) F s J hs (by omega) (by omega) (by omega) (by omega) h93 h94
      refine ⟨J', ?_, q3, by rw [hf]; exact q4, fun y hy => ?_⟩
      · rw [hgo, hf, if_pos rfl]
        unfold f_X7_pushesEven
        rw [zbd_s, Int32.sub_eq_add_neg, q1, zbd_s]
        unfold f_X7_matchesArguments_52
        rw [if_pos rfl]
      · have := q5 y (by omega)
        unfold zAe zte
        simp only [hsq]
        rw [if_neg (sqO_none hsq y hy), hf]
        exact this
    · left
      refine ⟨by unfold zfit; simp only [hsq]; exact hf, ?_⟩
      rw [hgo, if_neg (fun e => hf (nI_inj (by omega) (by omega) e))]
      unfold f_X7_matchesArguments_52
      rw [if_neg (fun e => hf (nI_inj (by omega) (by omega) e))]
  | some g =>
    have hg := (sqO_lt hsq).1
    have hgo := hgo (some g) hsq
    simp only at hgo
    have h9 : ∀ g, g < 9 → ¬ nI g = (-9 : Int32) := by decide +kernel
    rw [if_neg (h9 g (by omega)), zbd_s, nl1, nI_sub (show 1 ≤ tr T i by omega), nI_sub (show g ≤ tr T i - 1 by omega)] at hgo
    by_cases hf : tr T i ≤ tr U j + 1
    · right
      refine ⟨by unfold zfit; simp only [hsq]; exact hf, ?_⟩
      obtain ⟨J', q1, q2, q3, q4, q5, q6⟩ := gap88 (F := F) hRM hF hT hU hi hj hg hf (tr T i - 1 - g) 0 F s J (by omega) hs (by omega) (by omega) h93 h94
      refine ⟨J', ?_, q2, by rw [q3]; congr 1; omega, fun y hy => ?_⟩
      · rw [hgo, if_pos (nI_le (by omega) (by omega))]
        exact q1
      · unfold zAe zte ztk
        simp only [hsq]
        by_cases hy2 : y = g
        · subst hy2
          rw [if_pos (sqO_lt hsq).2, if_pos rfl, if_pos (Nat.le_refl _), show s + (tr T i - 1 - y) = s + (tr T i - 1 - y) from rfl]
          exact q5
        · rw [if_neg (sqO_ne hT hi hsq hy hy2)]
          by_cases hy3 : y ≤ g
          · rw [if_pos hy3]
            have := q6 y (by omega)
            rw [show s + (tr T i - 1 - g) + 1 + (g - 1 - y) = s + (tr T i - 1 - y) by omega] at this
            exact this
          · rw [if_neg hy3]
            have := q4 y (by omega) (by omega)
            rw [show tr T i - 1 - 0 - y = tr T i - 1 - y by omega] at this
            exact this
    · left
      refine ⟨by unfold zfit; simp only [hsq]; exact hf, ?_⟩
      rw [hgo, if_neg (nI_ge (by omega) (by omega))]
end ZPV
