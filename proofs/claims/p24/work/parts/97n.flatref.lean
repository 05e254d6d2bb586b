/-! put(): the reference's FLATTENING -/
section ZPN
variable {F : Nat} {RM : zR} {T : Tm}
theorem q_par_root : ∀ (G : aFo) (q c b d : Nat), aTf T G b d → ∀ k, k < qLn G → qPar G q c (wk (tsp T) k b - b) = q := by
  intro G
  induction G with
  | leaf _ => intro q c b d _ k hk; exact absurd hk (Nat.not_lt_zero _)
  | branch w k r ihk ihr =>
    intro q c b d h y hy
    have hy : y < 1 + qLn r := hy
    cases y with
    | zero => rw [show wk (tsp T) 0 b - b = 0 from Nat.sub_self b, qPar, if_pos rfl]
    | succ y =>
      rw [show wk (tsp T) (y + 1) b = wk (tsp T) y (b + tsp T b) from rfl, h.1.2.2.2.1, show b + (1 + qSz k) = b + 1 + qSz k by omega]
      have e := wk_le (tsp T) y (b + 1 + qSz k)
      rw [qPar, if_neg (by omega), if_neg (by omega), show wk (tsp T) y (b + 1 + qSz k) - b - 1 - qSz k = wk (tsp T) y (b + 1 + qSz k) - (b + 1 + qSz k) by omega]
      exact ihr _ _ _ _ h.2.2 y (by omega)
theorem q_par_tc (hT : tSh T) : ∀ (G : aFo) (q b d : Nat), aTf T G b d → b + qSz G ≤ tn T → ∀ i, b ≤ i → i < b + qSz G → ∀ k, k < tr T i → qPar G q (b + 1) (tc T i k - b) = i + 1 := by
  intro G
  induction G with
  | leaf _ => intro q b d _ _ i h1 h2; exact absurd h2 (by show ¬ i < b + 0; omega)
  | branch w k r ihk ihr =>
    intro q b d h hb i h1 h2 y hy
    have hb : b + (1 + qSz k + qSz r) ≤ tn T := hb
    have h2 : i < b + (1 + qSz k + qSz r) := h2
    obtain ⟨c1, c2, -⟩ := tc_lt hT (show i < tn T by omega) hy
    rw [qPar, if_neg (by omega)]
    by_cases e : i = b
    · subst e
      rw [h.1.2.2.2.1] at c2
      rw [if_pos (by omega), show tc T i y - i - 1 = wk (tsp T) y (i + 1) - (i + 1) by show wk (tsp T) y (i + 1) - i - 1 = _; omega]
      exact q_par_root k _ _ _ _ h.2.1 y (by rw [← h.1.2.2.1]; exact hy)
    · by_cases e2 : i < b + 1 + qSz k
      · obtain ⟨K, k1, k2, k3, k4, -⟩ := aTf_node _ _ _ h.2.1 i (by omega) (by omega)
        rw [if_pos (by omega), show tc T i y - b - 1 = tc T i y - (b + 1) by omega]
        exact ihk _ _ _ h.2.1 (by omega) i (by omega) (by omega) y hy
      · rw [if_neg (by omega), show tc T i y - b - 1 - qSz k = tc T i y - (b + 1 + qSz k) by omega, show b + 1 + 1 + qSz k = b + 1 + qSz k + 1 by omega]
        exact ihr _ _ _ h.2.2 (by omega) i (by omega) (by omega) y hy
theorem q_par_ne {G : aFo} (h1 : qLn G = 1) (h32 : qSz G ≤ 32) {j : Nat} (h0 : 0 < j) (hj : j < qSz G) : ∃ i k, i < j ∧ k < tr (tmF G) i ∧ j = tc (tmF G) i k ∧ qPar G 0 1 j = i + 1 := by
  have hT := q_tSh_f h1 h32
  obtain ⟨i, k, a1, a2, a3, a4⟩ := tch hT h0 hj
  refine ⟨i, k, a2, a3, a4, ?_⟩
  have := q_par_tc hT G 0 0 0 (aTf_tm G) (by show 0 + qSz G ≤ qSz G; omega) i (Nat.zero_le _) (by rw [Nat.zero_add]; exact a1) k a3
  rw [Nat.sub_zero, ← a4] at this
  exact this
theorem levelsP43 {o i : Nat} {q : Nat → Nat} (hRM : zRM RM) (ho : o + 97 ≤ 5751) (hT : tSh T) (hr : ∀ i, i < tn T → tr T i ≤ 32) (hq : ∀ i k, i < tn T → k < tr T i → q (tc T i k) = i) (hi : i < tn T) (k26 : zI → Int32 → Int32 → Option zI) : ∀ (d x t : Nat) (J : zI), zTm (J 90) o T → (∀ j, j < tn T → J 92 j = nI (tsp T j)) → x + d = tr T i → d < t →
    ∃ J', f_X7_levels_43 F zKm RM 89 k26 t J (nI o) (nI i) (nI (wk (tsp T) x (i + 1))) (nI x) = k26 J' (nI o) (nI (i + 1)) ∧ (∀ b, b ≠ 94 → b ≠ 95 → J' b = J b) ∧ (∀ j, J' 95 j = J 95 j ∨ J' 95 j = nI (q j)) ∧ ∀ y, x ≤ y → y < tr T i → J' 95 (tc T i y) = nI (q (tc T i y)) := by
  have hR0 : RM 89 0 = some 90 := hRM 89 0 (by decide) (by decide) (by decide)
  have hR5 : RM 89 5 = some 92 := hRM 89 5 (by decide) (by decide) (by decide)
  have hR7 : RM 89 7 = some 94 := hRM 89 7 (by decide) (by decide) (by decide)
  have hR8 : RM 89 8 = some 95 := hRM 89 8 (by decide) (by decide) (by decide)
  have hn := hT.2.1
  have hri := hr i hi
  intro d
  induction d with
  | zero =>
    intro x t J h hJ hx qHt
    obtain ⟨t, rfl⟩ : ∃ u, t = u + 1 := ⟨t - 1, by omega⟩
    refine ⟨J, ?_, fun _ _ _ => rfl, fun _ => Or.inl rfl, fun y h1 h2 => by omega⟩
    show g_X7_levels_43 F zKm RM 89 k26 _ J (nI o) (nI i) (nI (wk (tsp T) x (i + 1))) (nI x) = _
    unfold g_X7_levels_43
    rw [X7_arguments hR0 ho h hn hi, zbd_s, if_pos (nI_le (by omega) (by omega)), show (1 : Int32) = nI 1 from rfl, nI_add]
  | succ d ih =>
    intro x t J h hJ hx qHt
    obtain ⟨t, rfl⟩ : ∃ u, t = u + 1 := ⟨t - 1, by omega⟩
    obtain ⟨c1, c2, c3⟩ := tc_lt hT hi (show x < tr T i by omega)
    have c1 : i < wk (tsp T) x (i + 1) := c1
    have c3 : wk (tsp T) x (i + 1) < tn T := c3
    have hdp : q (wk (tsp T) x (i + 1)) = i := hq i x hi (by omega)
    have K95 : zKm 94 = (1, 32) := rfl
    have K96 : zKm 95 = (1, 32) := rfl
    have K93 : zKm 92 = (1, 32) := rfl
    obtain ⟨J', g1, g2, g3, g4⟩ := ih (x + 1) t (zup (zup J 94 (wk (tsp T) x (i + 1)) (J 94 i + nI 1)) 95 (wk (tsp T) x (i + 1)) (nI i)) (by rw [zup_ne _ _ _ (by decide), zup_ne _ _ _ (by decide)]; exact h) (fun j hj => by rw [zup_ne _ _ _ (by decide), zup_ne _ _ _ (by decide)]; exact hJ j hj) (by omega) (by omega)
    have e96 : ∀ j, zup (zup J 94 (wk (tsp T) x (i + 1)) (J 94 i + nI 1)) 95 (wk (tsp T) x (i + 1)) (nI i) 95 j = if j = wk (tsp T) x (i + 1) then nI i else J 95 j := fun j => by rw [zup_row, zup_ne _ _ _ (by decide)]
    refine ⟨J', ?_, fun b h1 h2 => by rw [g2 b h1 h2, zup_ne _ _ _ h2, zup_ne _ _ _ h1], fun j => ?_, fun y h1 h2 => ?_⟩
    · show g_X7_levels_43 F zKm RM 89 k26 _ J (nI o) (nI i) (nI (wk (tsp T) x (i + 1))) (nI x) = _
      unfold g_X7_levels_43
      rw [X7_arguments hR0 ho h hn hi, zbd_s, if_neg (nI_ge (by omega) (by omega)), hR7, zbd_s, zbd_s, zdr_s (t := 1) (by rw [K95]), zbd_s, zrd_s (by rw [K95]; show i < 32; omega) (by rw [K95]; decide), zbd_s, zbd_s, show (1 : Int32) = nI 1 from rfl]
      rw [zwr_s (by rw [K95]; show wk (tsp T) x (i + 1) < 32; omega) (by rw [K95]; decide), zbd_s, hR8, zbd_s, zdr_s (t := 1) (by rw [K96]), zbd_s, zwr_s (by rw [K96]; show wk (tsp T) x (i + 1) < 32; omega) (by rw [K96]; decide), zbd_s, hR5, zbd_s, zdr_s (t := 1) (by rw [K93]), zbd_s, zrd_s (by rw [K93]; show wk (tsp T) x (i + 1) < 32; omega) (by rw [K93]; decide), zbd_s, zup_ne _ _ _ (by decide), zup_ne _ _ _ (by decide), hJ _ c3, zbd_s, nI_add, ← wk_succ, nI_add]
      exact g1
    · rcases g3 j with g5 | g5
      · rw [g5, e96]
        by_cases hj : j = wk (tsp T) x (i + 1)
        · rw [if_pos hj, hj, hdp]
          exact Or.inr rfl
        · rw [if_neg hj]
          exact Or.inl rfl
      · exact Or.inr g5
    · by_cases hy : y = x
      · subst hy
        rcases g3 (tc T i y) with g5 | g5
        · rw [g5, e96, if_pos rfl]
          exact congrArg nI hdp.symm
        · exact g5
      · exact g4 y (by omega) h2
theorem levelsP26 {o : Nat} {q : Nat → Nat} (hF : 100 ≤ F) (hRM : zRM RM) (ho : o + 97 ≤ 5751) (hT : tSh T) (hr : ∀ i, i < tn T → tr T i ≤ 32) (hq : ∀ i k, i < tn T → k < tr T i → q (tc T i k) = i) : ∀ (d i t : Nat) (J : zI), zTm (J 90) o T → (∀ j, j < tn T → J 92 j = nI (tsp T j)) → (∀ i' k, i' < i → i' < tn T → k < tr T i' → J 95 (tc T i' k) = nI (q (tc T i' k))) → i + d = tn T → d < t →
    ∃ J', f_X7_levels_26 F zKm RM 89 t J (nI o) (nI i) = some J' ∧ ∀ j, 0 < j → j < tn T → J' 95 j = nI (q j) := by
  have hR0 : RM 89 0 = some 90 := hRM 89 0 (by decide) (by decide) (by decide)
  have hn := hT.2.1
  intro d
  induction d with
  | zero =>
    intro i t J h hJ hc hd qHt
    obtain ⟨t, rfl⟩ : ∃ u, t = u + 1 := ⟨t - 1, by omega⟩
    refine ⟨J, ?_, fun j h0 hj => ?_⟩
    · show g_X7_levels_26 F zKm RM 89 _ J (nI o) (nI i) = _
      unfold g_X7_levels_26
      rw [hR0, zbd_s, zd91, zbd_s, zrd_s (by rw [zKm91]; show o < 5751; omega) (by decide), zbd_s, h.1, if_pos (nI_le (by omega) (by omega))]
    · obtain ⟨i', k, a1, a2, a3, a4⟩ := tch hT h0 hj
      rw [a4]
      exact hc i' k (by omega) a1 a3
  | succ d ih =>
    intro i t J h hJ hc hd qHt
    obtain ⟨t, rfl⟩ : ∃ u, t = u + 1 := ⟨t - 1, by omega⟩
    have hri := hr i (by omega)
    obtain ⟨J1, g1, g2, g3, g4⟩ := levelsP43 (F := F) hRM ho hT hr hq (show i < tn T by omega) (f_X7_levels_26 F zKm RM 89 t) (tr T i) 0 F J h hJ (by omega) (by omega)
    have hback : ∀ j, J 95 j = nI (q j) → J1 95 j = nI (q j) := fun j hj => by
      rcases g3 j with g5 | g5
      · rw [g5, hj]
      · exact g5
    obtain ⟨J', e1, e3⟩ := ih (i + 1) t J1 (by rw [g2 90 (by decide) (by decide)]; exact h) (fun j hj => by rw [g2 92 (by decide) (by decide)]; exact hJ j hj) (fun i' k a1 a2 a3 => by
      by_cases hi' : i' = i
      · subst hi'
        exact g4 k (Nat.zero_le _) a3
      · exact hback _ (hc i' k (by omega) a2 a3)) (by omega) (by omega)
    refine ⟨J', ?_, e3⟩
    show g_X7_levels_26 F zKm RM 89 _ J (nI o) (nI i) = _
    unfold g_X7_levels_26
    rw [hR0, zbd_s, zd91, zbd_s, zrd_s (by rw [zKm91]; show o < 5751; omega) (by decide), zbd_s, h.1, if_neg (nI_ge (by omega) (by omega)), zbd_s, show (1 : Int32) = nI 1 from rfl, nI_add, show (0 : Int32) = nI 0 from rfl]
    rw [show wk (tsp T) 0 (i + 1) = i + 1 from rfl] at g1
    rw [g1, e1]
/-- levels with the parents of a forest -/
theorem X7_levelsG {J : zI} {G : aFo} {o : Nat} (hF : 100 ≤ F) (hRM : zRM RM) (ho : o + 97 ≤ 5751) (h1 : qLn G = 1) (h32 : qSz G ≤ 32) (h : zTm (J 90) o (tmF G)) :
    ∃ J', f_X7_levels F zKm J RM 89 (nI o) = some J' ∧ (∀ b, b ≠ 92 → b ≠ 94 → b ≠ 95 → J' b = J b) ∧ ∀ j, 0 < j → j < qSz G → J' 95 j = nI (qPar G 0 1 j - 1) := by
  have hR0 : RM 89 0 = some 90 := hRM 89 0 (by decide) (by decide) (by decide)
  have hR5 : RM 89 5 = some 92 := hRM 89 5 (by decide) (by decide) (by decide)
  have hR7 : RM 89 7 = some 94 := hRM 89 7 (by decide) (by decide) (by decide)
  have hR8 : RM 89 8 = some 95 := hRM 89 8 (by decide) (by decide) (by decide)
  have hT := q_tSh_f h1 h32
  have hr : ∀ i, i < tn (tmF G) → tr (tmF G) i ≤ 32 := fun i hi => by
    have := q_nd_len G i hi
    rw [q_tr_f]
    omega
  have K95 : zKm 94 = (1, 32) := rfl
  have K96 : zKm 95 = (1, 32) := rfl
  obtain ⟨J1, a1, a2, -⟩ := X7_levels hF hR0 hR5 hR7 hR8 ho hT hr h
  have hq : ∀ i k, i < tn (tmF G) → k < tr (tmF G) i → qPar G 0 1 (tc (tmF G) i k) - 1 = i := fun i k hi hk => by
    have := q_par_tc hT G 0 0 0 (aTf_tm G) (by show 0 + qSz G ≤ qSz G; omega) i (Nat.zero_le _) (by rw [Nat.zero_add]; exact hi) k hk
    rw [Nat.sub_zero] at this
    rw [show (1 : Nat) = 0 + 1 from rfl, this]
    rfl
  obtain ⟨J', e1, e3⟩ := levelsP26 (F := F) (q := fun j => qPar G 0 1 j - 1) hF hRM ho hT hr hq (tn (tmF G)) 0 F (zup (zup (zrw J 92 0 (tn (tmF G)) (fun j => nI (tsp (tmF G) j))) 94 0 (0 : Int32)) 95 0 (-9 : Int32)) (by rw [zup_ne _ _ _ (by decide), zup_ne _ _ _ (by decide), zrw_ne _ _ _ _ (by decide)]; exact h) (fun j hj => by rw [zup_ne _ _ _ (by decide), zup_ne _ _ _ (by decide), zrw_in _ _ _ (Nat.zero_le _) hj]) (fun i' k a1 => by omega) (by omega) (by have := hT.2.1; omega)
  have e2 : f_X7_levels F zKm J RM 89 (nI o) = some J' := by
    unfold f_X7_levels
    rw [hR5, zbd_s, X7_counts hF hR0 ho rfl (by decide) hT hr h, zbd_s, hR7, zbd_s, zdr_s (t := 1) (by rw [K95]), zbd_s]
    rw [show zwr zKm (zrw J 92 0 (tn (tmF G)) (fun j => nI (tsp (tmF G) j))) 94 (0 : Int32) (0 : Int32) = some (zup (zrw J 92 0 (tn (tmF G)) (fun j => nI (tsp (tmF G) j))) 94 0 (0 : Int32)) from zwr_s (j := 0) (by rw [K95]; decide) (by rw [K95]; decide), zbd_s, hR8, zbd_s, zdr_s (t := 1) (by rw [K96]), zbd_s]
    rw [show zwr zKm (zup (zrw J 92 0 (tn (tmF G)) (fun j => nI (tsp (tmF G) j))) 94 0 (0 : Int32)) 95 (0 : Int32) (-9 : Int32) = some (zup (zup (zrw J 92 0 (tn (tmF G)) (fun j => nI (tsp (tmF G) j))) 94 0 (0 : Int32)) 95 0 (-9 : Int32)) from zwr_s (j := 0) (by rw [K96]; decide) (by rw [K96]; decide), zbd_s]
    exact e1
  refine ⟨J', e2, ?_, e3⟩
  rw [a1] at e2
  cases e2
  exact a2
end ZPN
