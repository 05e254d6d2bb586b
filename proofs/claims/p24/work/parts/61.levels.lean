/-! TERMS: every node but the root is an argument of one before it; depths by the reference; step node -/
theorem wk_find (sp : Nat → Nat) (b j : Nat) (hb : b ≤ j) : ∀ K, j < wk sp K b → ∃ k, k < K ∧ wk sp k b ≤ j ∧ j < wk sp (k + 1) b := by
  intro K
  induction K with
  | zero => intro h; exact absurd hb (Nat.not_le.mpr h)
  | succ K ih =>
    intro h
    by_cases h1 : j < wk sp K b
    · obtain ⟨k, g1, g2⟩ := ih h1
      exact ⟨k, by omega, g2⟩
    · exact ⟨K, by omega, by omega, h⟩
theorem tch_in {T : Tm} (h : tSh T) : ∀ m i, i < tn T → tsp T i ≤ m → ∀ j, i < j → j < i + tsp T i → ∃ i' k, i' < tn T ∧ i' < j ∧ k < tr T i' ∧ j = tc T i' k := by
  intro m
  induction m with
  | zero => intro i hi hm j h1 h2; omega
  | succ m ih =>
    intro i hi hm j h1 h2
    have h3 := (h.2.2.2.1 i hi).2
    obtain ⟨k, hk, g1, g2⟩ := wk_find (tsp T) (i + 1) j h1 (tr T i) (by rw [h3]; exact h2)
    rw [wk_succ] at g2
    obtain ⟨c1, c2, c3⟩ := tc_lt h hi hk
    by_cases he : j = wk (tsp T) k (i + 1)
    · exact ⟨i, k, hi, h1, hk, he⟩
    · have h4 := wk_mono (tsp T) (show k + 1 ≤ tr T i from hk) (i + 1)
      rw [wk_succ, h3] at h4
      have c1 : i < wk (tsp T) k (i + 1) := c1
      have c3 : wk (tsp T) k (i + 1) < tn T := c3
      exact ih (wk (tsp T) k (i + 1)) c3 (by omega) j (by omega) g2
theorem tch {T : Tm} (h : tSh T) {j : Nat} (h0 : 0 < j) (hj : j < tn T) : ∃ i k, i < tn T ∧ i < j ∧ k < tr T i ∧ j = tc T i k :=
  tch_in h _ 0 h.1 (Nat.le_refl _) j h0 (by rw [Nat.zero_add]; exact (show tsp T 0 = tn T from h.2.2.2.2.1) ▸ hj)
section ZLV
variable {F : Nat} {RM : zR} {o i : Nat} {T : Tm}
theorem levels43 (hR0 : RM 89 0 = some 90) (hR5 : RM 89 5 = some 92) (hR7 : RM 89 7 = some 94) (hR8 : RM 89 8 = some 95) (ho : o + 97 ≤ 5751) (hT : tSh T) (hr : ∀ i, i < tn T → tr T i ≤ 32) (hi : i < tn T) (k26 : zI → Int32 → Int32 → Option zI) : ∀ (d x t : Nat) (J : zI), zTm (J 90) o T → (∀ j, j < tn T → J 92 j = nI (tsp T j)) → J 94 i = nI (tdp T i) → x + d = tr T i → d < t →
    ∃ J', f_X7_levels_43 F zKm RM 89 k26 t J (nI o) (nI i) (nI (wk (tsp T) x (i + 1))) (nI x) = k26 J' (nI o) (nI (i + 1)) ∧ (∀ b, b ≠ 94 → b ≠ 95 → J' b = J b) ∧ (∀ j, J' 94 j = J 94 j ∨ J' 94 j = nI (tdp T j)) ∧ ∀ y, x ≤ y → y < tr T i → J' 94 (tc T i y) = nI (tdp T (tc T i y)) := by
  have hn := hT.2.1
  have hri := hr i hi
  intro d
  induction d with
  | zero =>
    intro x t J h hJ hd hx ht
    obtain ⟨t, rfl⟩ : ∃ u, t = u + 1 := ⟨t - 1, by omega⟩
    refine ⟨J, ?_, fun _ _ _ => rfl, fun _ => Or.inl rfl, fun y h1 h2 => by omega⟩
    show g_X7_levels_43 F zKm RM 89 k26 _ J (nI o) (nI i) (nI (wk (tsp T) x (i + 1))) (nI x) = _
    unfold g_X7_levels_43
    rw [X7_arguments hR0 ho h hn hi, zbd_s, if_pos (nI_le (by omega) (by omega)), show (1 : Int32) = nI 1 from rfl, nI_add]
  | succ d ih =>
    intro x t J h hJ hd hx ht
    obtain ⟨t, rfl⟩ : ∃ u, t = u + 1 := ⟨t - 1, by omega⟩
    obtain ⟨c1, c2, c3⟩ := tc_lt hT hi (show x < tr T i by omega)
    have c1 : i < wk (tsp T) x (i + 1) := c1
    have c3 : wk (tsp T) x (i + 1) < tn T := c3
    have hdp : tdp T (wk (tsp T) x (i + 1)) = tdp T i + 1 := hT.2.2.2.2.2.2 i hi x (by omega)
    have K95 : zKm 94 = (1, 32) := rfl
    have K96 : zKm 95 = (1, 32) := rfl
    have K93 : zKm 92 = (1, 32) := rfl
    obtain ⟨J', g1, g2, g3, g4⟩ := ih (x + 1) t (zup (zup J 94 (wk (tsp T) x (i + 1)) (nI (tdp T i + 1))) 95 (wk (tsp T) x (i + 1)) (nI i)) (by rw [zup_ne _ _ _ (by decide), zup_ne _ _ _ (by decide)]; exact h) (fun j hj => by rw [zup_ne _ _ _ (by decide), zup_ne _ _ _ (by decide)]; exact hJ j hj) (by rw [zup_ne _ _ _ (by decide), zup_self_ne _ _ _ (by omega)]; exact hd) (by omega) (by omega)
    have e95 : ∀ j, zup (zup J 94 (wk (tsp T) x (i + 1)) (nI (tdp T i + 1))) 95 (wk (tsp T) x (i + 1)) (nI i) 94 j = if j = wk (tsp T) x (i + 1) then nI (tdp T i + 1) else J 94 j := fun j => by rw [zup_ne _ _ _ (by decide), zup_row]
    refine ⟨J', ?_, fun b h1 h2 => by rw [g2 b h1 h2, zup_ne _ _ _ h2, zup_ne _ _ _ h1], fun j => ?_, fun y h1 h2 => ?_⟩
    · show g_X7_levels_43 F zKm RM 89 k26 _ J (nI o) (nI i) (nI (wk (tsp T) x (i + 1))) (nI x) = _
      unfold g_X7_levels_43
      rw [X7_arguments hR0 ho h hn hi, zbd_s, if_neg (nI_ge (by omega) (by omega)), hR7, zbd_s, zbd_s, zdr_s (t := 1) (by rw [K95]), zbd_s, zrd_s (by rw [K95]; show i < 32; omega) (by rw [K95]; decide), zbd_s, zbd_s, hd, show (1 : Int32) = nI 1 from rfl, nI_add]
      rw [zwr_s (by rw [K95]; show wk (tsp T) x (i + 1) < 32; omega) (by rw [K95]; decide), zbd_s, hR8, zbd_s, zdr_s (t := 1) (by rw [K96]), zbd_s, zwr_s (by rw [K96]; show wk (tsp T) x (i + 1) < 32; omega) (by rw [K96]; decide), zbd_s, hR5, zbd_s, zdr_s (t := 1) (by rw [K93]), zbd_s, zrd_s (by rw [K93]; show wk (tsp T) x (i + 1) < 32; omega) (by rw [K93]; decide), zbd_s, zup_ne _ _ _ (by decide), zup_ne _ _ _ (by decide), hJ _ c3, zbd_s, nI_add, ← wk_succ, nI_add]
      exact g1
    · rcases g3 j with g5 | g5
      · rw [g5, e95]
        by_cases hj : j = wk (tsp T) x (i + 1)
        · rw [if_pos hj, hj, hdp]
          exact Or.inr rfl
        · rw [if_neg hj]
          exact Or.inl rfl
      · exact Or.inr g5
    · by_cases hy : y = x
      · subst hy
        rcases g3 (tc T i y) with g5 | g5
        · rw [g5, e95, if_pos rfl]
          exact congrArg nI hdp.symm
        · exact g5
      · exact g4 y (by omega) h2
theorem levels26 (hF : 100 ≤ F) (hR0 : RM 89 0 = some 90) (hR5 : RM 89 5 = some 92) (hR7 : RM 89 7 = some 94) (hR8 : RM 89 8 = some 95) (ho : o + 97 ≤ 5751) (hT : tSh T) (hr : ∀ i, i < tn T → tr T i ≤ 32) : ∀ (d i t : Nat) (J : zI), zTm (J 90) o T → (∀ j, j < tn T → J 92 j = nI (tsp T j)) → J 94 0 = nI (tdp T 0) → (∀ i' k, i' < i → i' < tn T → k < tr T i' → J 94 (tc T i' k) = nI (tdp T (tc T i' k))) → i + d = tn T → d < t →
    ∃ J', f_X7_levels_26 F zKm RM 89 t J (nI o) (nI i) = some J' ∧ (∀ b, b ≠ 94 → b ≠ 95 → J' b = J b) ∧ ∀ j, j < tn T → J' 94 j = nI (tdp T j) := by
  have hn := hT.2.1
  intro d
  induction d with
  | zero =>
    intro i t J h hJ h0 hc hd ht
    obtain ⟨t, rfl⟩ : ∃ u, t = u + 1 := ⟨t - 1, by omega⟩
    refine ⟨J, ?_, fun _ _ _ => rfl, fun j hj => ?_⟩
    · show g_X7_levels_26 F zKm RM 89 _ J (nI o) (nI i) = _
      unfold g_X7_levels_26
      rw [hR0, zbd_s, zd91, zbd_s, zrd_s (by rw [zKm91]; show o < 5751; omega) (by decide), zbd_s, h.1, if_pos (nI_le (by omega) (by omega))]
    · by_cases hj0 : j = 0
      · rw [hj0]; exact h0
      · obtain ⟨i', k, a1, a2, a3, a4⟩ := tch hT (by omega) hj
        rw [a4]
        exact hc i' k (by omega) a1 a3
  | succ d ih =>
    intro i t J h hJ h0 hc hd ht
    obtain ⟨t, rfl⟩ : ∃ u, t = u + 1 := ⟨t - 1, by omega⟩
    have hdi : J 94 i = nI (tdp T i) := by
      by_cases hj0 : i = 0
      · rw [hj0]; exact h0
      · obtain ⟨i', k, a1, a2, a3, a4⟩ := tch hT (show 0 < i by omega) (by omega)
        have := hc i' k a2 a1 a3
        rw [← a4] at this
        exact this
    have hri := hr i (by omega)
    obtain ⟨J1, g1, g2, g3, g4⟩ := levels43 (F := F) hR0 hR5 hR7 hR8 ho hT hr (show i < tn T by omega) (f_X7_levels_26 F zKm RM 89 t) (tr T i) 0 F J h hJ hdi (by omega) (by omega)
    have hback : ∀ j, J 94 j = nI (tdp T j) → J1 94 j = nI (tdp T j) := fun j hj => by
      rcases g3 j with g5 | g5
      · rw [g5, hj]
      · exact g5
    obtain ⟨J', e1, e2, e3⟩ := ih (i + 1) t J1 (by rw [g2 90 (by decide) (by decide)]; exact h) (fun j hj => by rw [g2 92 (by decide) (by decide)]; exact hJ j hj) (hback 0 h0) (fun i' k a1 a2 a3 => by
      by_cases hi' : i' = i
      · subst hi'
        exact g4 k (Nat.zero_le _) a3
      · exact hback _ (hc i' k (by omega) a2 a3)) (by omega) (by omega)
    refine ⟨J', ?_, fun b h1 h2 => by rw [e2 b h1 h2, g2 b h1 h2], e3⟩
    show g_X7_levels_26 F zKm RM 89 _ J (nI o) (nI i) = _
    unfold g_X7_levels_26
    rw [hR0, zbd_s, zd91, zbd_s, zrd_s (by rw [zKm91]; show o < 5751; omega) (by decide), zbd_s, h.1, if_neg (nI_ge (by omega) (by omega)), zbd_s, show (1 : Int32) = nI 1 from rfl, nI_add, show (0 : Int32) = nI 0 from rfl]
    rw [show wk (tsp T) 0 (i + 1) = i + 1 from rfl] at g1
    rw [g1, e1]
theorem X7_levels {J : zI} (hF : 100 ≤ F) (hR0 : RM 89 0 = some 90) (hR5 : RM 89 5 = some 92) (hR7 : RM 89 7 = some 94) (hR8 : RM 89 8 = some 95) (ho : o + 97 ≤ 5751) (hT : tSh T) (hr : ∀ i, i < tn T → tr T i ≤ 32) (h : zTm (J 90) o T) :
    ∃ J', f_X7_levels F zKm J RM 89 (nI o) = some J' ∧ (∀ b, b ≠ 92 → b ≠ 94 → b ≠ 95 → J' b = J b) ∧ ∀ j, j < tn T → J' 92 j = nI (tsp T j) ∧ J' 94 j = nI (tdp T j) := by
  have hn := hT.2.1
  have K95 : zKm 94 = (1, 32) := rfl
  have K96 : zKm 95 = (1, 32) := rfl
  obtain ⟨J', e1, e2, e3⟩ := levels26 (F := F) hF hR0 hR5 hR7 hR8 ho hT hr (tn T) 0 F (zup (zup (zrw J 92 0 (tn T) (fun j => nI (tsp T j))) 94 0 (0 : Int32)) 95 0 (-9 : Int32)) (by rw [zup_ne _ _ _ (by decide), zup_ne _ _ _ (by decide), zrw_ne _ _ _ _ (by decide)]; exact h) (fun j hj => by rw [zup_ne _ _ _ (by decide), zup_ne _ _ _ (by decide), zrw_in _ _ _ (Nat.zero_le _) hj]) (by rw [zup_ne _ _ _ (by decide), zup_self, hT.2.2.2.2.2.1]; rfl) (fun i' k a1 => by omega) (by omega) (by omega)
  refine ⟨J', ?_, fun b h1 h2 h3 => by rw [e2 b h2 h3, zup_ne _ _ _ h3, zup_ne _ _ _ h2, zrw_ne _ _ _ _ h1], fun j hj => ⟨by rw [e2 92 (by decide) (by decide), zup_ne _ _ _ (by decide), zup_ne _ _ _ (by decide), zrw_in _ _ _ (Nat.zero_le _) hj], e3 j hj⟩⟩
  unfold f_X7_levels
  rw [hR5, zbd_s, X7_counts hF hR0 ho rfl (by decide) hT hr h, zbd_s, hR7, zbd_s, zdr_s (t := 1) (by rw [K95]), zbd_s]
  rw [show zwr zKm (zrw J 92 0 (tn T) (fun j => nI (tsp T j))) 94 (0 : Int32) (0 : Int32) = some (zup (zrw J 92 0 (tn T) (fun j => nI (tsp T j))) 94 0 (0 : Int32)) from zwr_s (j := 0) (by rw [K95]; decide) (by rw [K95]; decide), zbd_s, hR8, zbd_s, zdr_s (t := 1) (by rw [K96]), zbd_s]
  rw [show zwr zKm (zup (zrw J 92 0 (tn T) (fun j => nI (tsp T j))) 94 0 (0 : Int32)) 95 (0 : Int32) (-9 : Int32) = some (zup (zup (zrw J 92 0 (tn T) (fun j => nI (tsp T j))) 94 0 (0 : Int32)) 95 0 (-9 : Int32)) from zwr_s (j := 0) (by rw [K96]; decide) (by rw [K96]; decide), zbd_s]
  exact e1
end ZLV
