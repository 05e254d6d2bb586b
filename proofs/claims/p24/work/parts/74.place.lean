/-! What the class tells the arguments of a node of the pattern -/
section ZPX
variable {F : Nat} {K : zK} {R : zR} {t u i j m : Nat} {T U : Tm}
theorem place72 (hM : zMk K R m) (h0 : R m 0 = some t) (h1 : R m 1 = some u) (ht : 92 ≤ t) (hu : 92 ≤ u) (hF : 100 ≤ F) (hT : tWF T) (hU : tWF U) (hi : i < tn T) (hj : j < tn U) {te tk : Nat → Nat} {x4 x5 : Int32} (hte : ∀ x, x < tr T i → te x + tk x = te (x + 1)) (hle : ∀ x, x ≤ tr T i → te x ≤ tr U j) (hk : ∀ x, x < tr T i → (if nI x = x4 then x5 else 1) = nI (tk x)) :
    ∀ (d x f : Nat) (I : zI), zTc K I R t T → zTc K I R u U → x + d = tr T i → d < f → ∃ I', f_X1_placeArguments_72 F K R m f I (nI (tr T i)) x4 x5 (nI (tc T i x)) (nI (tc U j (te x))) (nI x) = some (1, I') ∧ (∀ b, b ≠ m + 9 → b ≠ m + 10 → I' b = I b) ∧ (∀ y, x ≤ y → y < tr T i → I' (m + 9) (tc T i y) = nI (tc U j (te y)) ∧ I' (m + 10) (tc T i y) = nI (tk y)) ∧ ∀ p, p < tc T i x ∨ i + tsp T i ≤ p → I' (m + 9) p = I (m + 9) p ∧ I' (m + 10) p = I (m + 10) p := by
  obtain ⟨hm, km, ⟨k51, k52, k53, k54, k55, k56⟩, r2, r3, r4, r5, r6, r7⟩ := hM
  have hn := hT.1.2.1
  have hnU := hU.1.2.1
  have hr := (hT.2.1 i hi).2.1
  have hrU := (hU.2.1 j hj).2.1
  intro d
  induction d with
  | zero =>
    intro x f I hTc hUc hx hf
    obtain ⟨f, rfl⟩ : ∃ g, f = g + 1 := ⟨f - 1, by omega⟩
    refine ⟨I, ?_, fun _ _ _ => rfl, fun y h1 h2 => by omega, fun _ _ => ⟨rfl, rfl⟩⟩
    show g_X1_placeArguments_72 F K R m _ I (nI (tr T i)) x4 x5 (nI (tc T i x)) (nI (tc U j (te x))) (nI x) = _
    unfold g_X1_placeArguments_72
    rw [if_pos (nI_le (by omega) (by omega))]
  | succ d ih =>
    intro x f I hTc hUc hx hf
    obtain ⟨f, rfl⟩ : ∃ g, f = g + 1 := ⟨f - 1, by omega⟩
    obtain ⟨c1, c2, c3⟩ := tc_lt hT.1 hi (show x < tr T i by omega)
    have e4 := hk x (by omega)
    have e5 := hte x (by omega)
    have e6 := hle (x + 1) (by omega)
    have k15 : (K t).1 = 15 := by rw [hTc.1]
    have u15 : (K u).1 = 15 := by rw [hUc.1]
    have hA : 1 ≤ tc U j (te x) := Nat.le_trans (by omega) (wk_le (tsp U) (te x) (j + 1))
    have hw : ∀ k, k < tk x → wk (tsp U) k (tc U j (te x) - 1 + 1) < tn U := fun k hk2 => by
      rw [show tc U j (te x) - 1 + 1 = tc U j (te x) by omega]
      have := (tc_lt hU.1 hj (show te x + k < tr U j by omega)).2.2
      rw [show tc U j (te x + k) = wk (tsp U) k (tc U j (te x)) from wk_add _ _ _ _] at this
      exact this
    have hUA : tc U j (te x) < 1000 := by
      have h2 := tc_mono (T := U) (i := j) (show te x ≤ tr U j by omega)
      have h3 := tc_end hU.1 hj
      omega
    have hTc1 : zTc K (zup (zup I (m + 9) (tc T i x) (nI (tc U j (te x)))) (m + 10) (tc T i x) (nI (tk x))) R t T := zTc_row hTc ht (fun b hb => by rw [zup_ne _ _ _ (by omega), zup_ne _ _ _ (by omega)]) (fun _ _ => rfl)
    have hUc1 : zTc K (zup (zup I (m + 9) (tc T i x) (nI (tc U j (te x)))) (m + 10) (tc T i x) (nI (tk x))) R u U := zTc_row hUc hu (fun b hb => by rw [zup_ne _ _ _ (by omega), zup_ne _ _ _ (by omega)]) (fun _ _ => rfl)
    have hgo : g_X1_placeArguments_72 F K R m (f_X1_placeArguments_72 F K R m f) I (nI (tr T i)) x4 x5 (nI (tc T i x)) (nI (tc U j (te x))) (nI x) = f_X1_placeArguments_113 F K R m (f_X1_placeArguments_72 F K R m f) (zup I (m + 9) (tc T i x) (nI (tc U j (te x)))) (nI (tr T i)) x4 x5 (nI (tc T i x)) (nI (tc U j (te x))) (nI x) (some (m + 10)) (nI (tc T i x)) (nI (tk x)) := by
      unfold g_X1_placeArguments_72
      rw [if_neg (nI_ge (by omega) (by omega)), if_neg (show ¬ ((32 : Int32) ≤ nI (tc T i x)) from nI_ge (b := 32) (by omega) (by omega)), r2, zbd_s, zdr_s (t := 1) (by rw [k51]), zbd_s, zwr_s (by rw [k51]; show tc T i x < 32; omega) (by rw [k51]; decide), zbd_s, r3, zbd_s, ← e4]
      by_cases h4 : nI x = x4
      · rw [if_pos h4, if_pos h4]
      · rw [if_neg h4, if_neg h4]
    obtain ⟨I', q1, q2, q3, q4⟩ := ih (x + 1) f _ hTc1 hUc1 (by omega) (by omega)
    refine ⟨I', ?_, ?_, ?_, ?_⟩
    · show g_X1_placeArguments_72 F K R m (f_X1_placeArguments_72 F K R m f) I (nI (tr T i)) x4 x5 (nI (tc T i x)) (nI (tc U j (te x))) (nI x) = _
      rw [hgo]
      unfold f_X1_placeArguments_113
      rw [zdr_s (t := 1) (by rw [k52]), zbd_s, zwr_s (by rw [k52]; show tc T i x < 32; omega) (by rw [k52]; decide), zbd_s, h1, zbd_s, r3, zbd_s, zdr_s (t := 1) (by rw [k52]), zbd_s, zrd_s (by rw [k52]; show tc T i x < 32; omega) (by rw [k52]; decide), zbd_s, zdr_s u15, zbd_s, zup_self, nl1, nI_sub hA, X5_argument hUc1 hU hF (by omega) hw, zbd_s, h0, zbd_s, zdr_s k15, zbd_s, X5_spanOf hTc1 hT c3, zbd_s, nI_add, zbd_s, nI_add, show tc U j (te x) - 1 + 1 = tc U j (te x) by omega, ← wk_add, e5, ← tc_succ]
      exact q1
    · intro b b1 b2
      rw [q2 b b1 b2, zup_ne _ _ _ b2, zup_ne _ _ _ b1]
    · intro y y1 y2
      by_cases hy : y = x
      · subst hy
        have := q4 (tc T i y) (Or.inl (tc_lt' hT.1 (by omega)))
        rw [this.1, this.2, zup_self, zup_nb _ _ _ (by omega), zup_self]
        exact ⟨rfl, rfl⟩
      · exact q3 y (by omega) y2
    · intro p hp
      have hl := tc_lt' hT.1 (i := i) (show x < x + 1 by omega)
      have hp2 : p ≠ tc T i x := by omega
      have := q4 p (by omega)
      rw [this.1, this.2, zup_nb _ _ _ (show m + 9 ≠ m + 10 by omega), zup_self_ne _ _ _ hp2, zup_self_ne _ _ _ hp2, zup_nb _ _ _ (show m + 10 ≠ m + 9 by omega)]
      exact ⟨rfl, rfl⟩
end ZPX
/-- which arguments of node j of the term an argument x of node i of the pattern takes: from te on, tk of them -/
def zte (U : Tm) (T : Tm) (i j x : Nat) : Nat := match sqO T i with
  | none => x
  | some g => if x ≤ g then x else x + tr U j - tr T i
def ztk (U : Tm) (T : Tm) (i j x : Nat) : Nat := match sqO T i with
  | none => 1
  | some g => if x = g then tr U j + 1 - tr T i else 1
/-- whether the arguments fit -/
def zfit (U : Tm) (T : Tm) (i j : Nat) : Prop := match sqO T i with
  | none => tr T i = tr U j
  | some _ => tr T i ≤ tr U j + 1
section ZPY
variable {F : Nat} {K : zK} {R : zR} {I : zI} {t u i j m : Nat} {T U : Tm}
theorem sqO_lt {T : Tm} {i g : Nat} (h : sqO T i = some g) : g < tr T i ∧ ts T (tc T i g) = 3 := by
  obtain ⟨a, b, c⟩ := sqf_lt _ _ _ h
  exact ⟨by omega, c⟩
theorem sqO_none {T : Tm} {i : Nat} (h : sqO T i = none) : ∀ x, x < tr T i → ts T (tc T i x) ≠ 3 := fun x hx => sqf_none _ _ h x (Nat.zero_le _) (by omega)
theorem sqO_ne {T : Tm} (hT : tWF T) {i g x : Nat} (hi : i < tn T) (h : sqO T i = some g) (hx : x < tr T i) (hg : x ≠ g) : ts T (tc T i x) ≠ 3 := fun e => hg (hT.2.2.2.2 i hi x g hx (sqO_lt h).1 e (sqO_lt h).2)
theorem zte_step (hf : zfit U T i j) {x : Nat} (hx : x < tr T i) : zte U T i j x + ztk U T i j x = zte U T i j (x + 1) := by
  unfold zfit at hf
  unfold zte ztk
  cases h : sqO T i with
  | none => rfl
  | some g =>
    simp only [h] at hf
    have := (sqO_lt h).1
    show (if x ≤ g then x else x + tr U j - tr T i) + (if x = g then tr U j + 1 - tr T i else 1) = if x + 1 ≤ g then x + 1 else x + 1 + tr U j - tr T i
    by_cases h1 : x = g
    · rw [if_pos (by omega), if_pos h1, if_neg (by omega)]; omega
    · by_cases h2 : x ≤ g
      · rw [if_pos h2, if_neg h1, if_pos (by omega)]
      · rw [if_neg h2, if_neg h1, if_neg (by omega)]; omega
theorem zte_end (hf : zfit U T i j) : zte U T i j (tr T i) = tr U j := by
  unfold zfit at hf
  unfold zte
  cases h : sqO T i with
  | none => simp only [h] at hf; exact hf
  | some g =>
    have := (sqO_lt h).1
    show (if tr T i ≤ g then tr T i else tr T i + tr U j - tr T i) = _
    rw [if_neg (by omega)]; omega
theorem zte_0 : zte U T i j 0 = 0 := by
  unfold zte
  cases h : sqO T i with
  | none => rfl
  | some g => exact if_pos (Nat.zero_le _)
theorem zte_le (hf : zfit U T i j) : ∀ d x, x + d = tr T i → zte U T i j x ≤ tr U j := by
  intro d
  induction d with
  | zero => intro x hx; rw [show x = tr T i by omega, zte_end hf]; exact Nat.le_refl _
  | succ d ih =>
    intro x hx
    have := ih (x + 1) (by omega)
    have h2 := zte_step hf (show x < tr T i by omega)
    omega
/-- placeArguments() as a whole -/
theorem X1_place (hM : zMk K R m) (h0 : R m 0 = some t) (h1 : R m 1 = some u) (ht : 92 ≤ t) (hu : 92 ≤ u) (hF : 100 ≤ F) (hT : tWF T) (hU : tWF U) (hi : i < tn T) (hj : j < tn U) (hTc : zTc K I R t T) (hUc : zTc K I R u U) :
    (¬ zfit U T i j ∧ f_X1_placeArguments F K I R m (nI i) (nI j) = some (0, I)) ∨ (zfit U T i j ∧ ∃ I', f_X1_placeArguments F K I R m (nI i) (nI j) = some (1, I') ∧ (∀ b, b ≠ m + 9 → b ≠ m + 10 → I' b = I b) ∧ (∀ y, y < tr T i → I' (m + 9) (tc T i y) = nI (tc U j (zte U T i j y)) ∧ I' (m + 10) (tc T i y) = nI (ztk U T i j y)) ∧ ∀ p, p ≤ i ∨ i + tsp T i ≤ p → I' (m + 9) p = I (m + 9) p ∧ I' (m + 10) p = I (m + 10) p) := by
  have k15 : (K t).1 = 15 := by rw [hTc.1]
  have u15 : (K u).1 = 15 := by rw [hUc.1]
  have hr := (hT.2.1 i hi).2.1
  have hrU := (hU.2.1 j hj).2.1
  have hgo : ∀ g : Option Nat, sqO T i = g → f_X1_placeArguments F K I R m (nI i) (nI j) = if (match g with | none => (-1 : Int32) | some k => nI k) < (0 : Int32) then f_X1_placeArguments_39 F K R m I (nI i) (nI j) (nI (tr T i)) (match g with | none => (-1 : Int32) | some k => nI k) (nI (tr U j) - nI (tr T i)) (0 : Int32) else f_X1_placeArguments_39 F K R m I (nI i) (nI j) (nI (tr T i)) (match g with | none => (-1 : Int32) | some k => nI k) (nI (tr U j) - nI (tr T i)) (1 : Int32) := fun g hg => by
    unfold f_X1_placeArguments
    rw [h0, zbd_s, zdr_s k15, zbd_s, X5_argumentsOf hTc hT hi, zbd_s, zbd_s, zdr_s k15, zbd_s, X5_sequencePlace hTc hT hF hi, zbd_s, h1, zbd_s, zdr_s u15, zbd_s, X5_argumentsOf hUc hU hj, zbd_s, hg]
    cases g <;> rfl
  have hrun : ∀ (x4 x5 : Int32), zfit U T i j → (∀ x, x < tr T i → (if nI x = x4 then x5 else 1) = nI (ztk U T i j x)) → ∃ I', f_X1_placeArguments_59 F K R m I (nI i) (nI j) (nI (tr T i)) x4 x5 = some (1, I') ∧ (∀ b, b ≠ m + 9 → b ≠ m + 10 → I' b = I b) ∧ (∀ y, y < tr T i → I' (m + 9) (tc T i y) = nI (tc U j (zte U T i j y)) ∧ I' (m + 10) (tc T i y) = nI (ztk U T i j y)) ∧ ∀ p, p ≤ i ∨ i + tsp T i ≤ p → I' (m + 9) p = I (m + 9) p ∧ I' (m + 10) p = I (m + 10) p := fun x4 x5 hf hk => by
    obtain ⟨I', q1, q2, q3, q4⟩ := place72 (F := F) hM h0 h1 ht hu hF hT hU hi hj (te := zte U T i j) (tk := ztk U T i j) (x4 := x4) (x5 := x5) (fun x hx => zte_step hf hx) (fun x hx => zte_le hf (tr T i - x) x (by omega)) hk (tr T i) 0 F I hTc hUc (by omega) (by omega)
    refine ⟨I', ?_, q2, fun y hy => q3 y (Nat.zero_le _) hy, fun p hp => q4 p ?_⟩
    · unfold f_X1_placeArguments_59
      rw [zbd_s, zbd_s, nI_1, nI_1]
      rw [zte_0] at q1
      exact q1
    · rcases hp with hp | hp
      · exact Or.inl (Nat.lt_succ_of_le hp)
      · exact Or.inr hp
  cases hs : sqO T i with
  | none =>
    have hgo := hgo none hs
    simp only at hgo
    rw [if_pos (by decide)] at hgo
    by_cases hf : tr T i = tr U j
    · right
      have hfit : zfit U T i j := by unfold zfit; simp only [hs]; exact hf
      refine ⟨hfit, ?_⟩
      obtain ⟨I', q1, q2⟩ := hrun (-1) (nI 0) hfit (fun x hx => by
        unfold ztk
        simp only [hs]
        exact if_neg (by intro e; have := congrArg Int32.toInt e; rw [nI_toInt (by omega)] at this; revert this; show (x : Int) = -1 → False; omega))
      refine ⟨I', ?_, q2⟩
      rw [hgo]
      unfold f_X1_placeArguments_39
      rw [hf, nI_sub (Nat.le_refl _), Nat.sub_self, show nI 0 + (0 : Int32) = nI 0 from rfl, zbd_s, if_neg (show ¬ (nI 0 < (0 : Int32)) by decide), if_neg (show ¬ ((0 : Int32) ≤ -1) by decide), if_pos (show nI 0 ≤ (0 : Int32) by decide), ← hf]
      exact q1
    · left
      refine ⟨by unfold zfit; simp only [hs]; exact hf, ?_⟩
      rw [hgo]
      unfold f_X1_placeArguments_39
      by_cases h2 : tr T i ≤ tr U j
      · rw [nI_sub h2, show nI (tr U j - tr T i) + (0 : Int32) = nI (tr U j - tr T i) from Int32.add_zero _, zbd_s, if_neg (nI_pos (by omega)), if_neg (show ¬ ((0 : Int32) ≤ -1) by decide), if_neg (show ¬ (nI (tr U j - tr T i) ≤ (0 : Int32)) from nI_nle (by omega) (by omega))]
      · have hneg : ∀ a, a < 9 → ∀ b, b < 9 → a < b → (nI a - nI b + 0 : Int32) < 0 := by decide +kernel
        rw [zbd_s, if_pos (hneg _ (by omega) _ (by omega) (by omega))]
  | some g =>
    have hg := (sqO_lt hs).1
    have hgo := hgo (some g) hs
    simp only at hgo
    rw [if_neg (nI_pos (by omega))] at hgo
    by_cases hf : tr T i ≤ tr U j + 1
    · right
      have hfit : zfit U T i j := by unfold zfit; simp only [hs]; exact hf
      refine ⟨hfit, ?_⟩
      have hv : ∀ a, a < 9 → ∀ b, b < 9 → b ≤ a + 1 → (nI a - nI b + 1 : Int32) = nI (a + 1 - b) := by decide +kernel
      obtain ⟨I', q1, q2⟩ := hrun (nI g) (nI (tr U j + 1 - tr T i)) hfit (fun x hx => by
        unfold ztk
        simp only [hs]
        by_cases hx2 : x = g
        · rw [if_pos (by rw [hx2]), if_pos hx2]
        · rw [if_neg (fun e => hx2 (nI_inj (by omega) (by omega) e)), if_neg hx2]; rfl)
      refine ⟨I', ?_, q2⟩
      rw [hgo]
      unfold f_X1_placeArguments_39
      rw [hv _ (by omega) _ (by omega) hf, zbd_s, if_neg (nI_pos (by omega)), if_pos (nI_pos' (by omega))]
      exact q1
    · left
      refine ⟨by unfold zfit; simp only [hs]; exact hf, ?_⟩
      rw [hgo]
      unfold f_X1_placeArguments_39
      have hneg : ∀ a, a < 9 → ∀ b, b < 9 → a + 1 < b → (nI a - nI b + 1 : Int32) < 0 := by decide +kernel
      rw [zbd_s, if_pos (hneg _ (by omega) _ (by omega) (by omega))]
end ZPY
