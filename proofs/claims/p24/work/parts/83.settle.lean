/-! settle(): spans and depths of a term whose nodes have come -/
def zTk (K : zK) (I : zI) (R : zR) (t : Nat) (T : Tm) : Prop :=
  K t = (15, 0) ∧ K (t + 1) = (1, 32) ∧ K (t + 2) = (1, 32) ∧ K (t + 3) = (1, 32) ∧ R t 0 = some (t + 1) ∧ R t 1 = some (t + 2) ∧ R t 2 = some (t + 3) ∧ I t 3 = nI (tn T) ∧ ∀ i, i < tn T → I (t + 1) i = nI (tcode T i)
/-- nodes that have codes; depths are not asked -/
def tNc (T : Tm) : Prop := ∀ i, i < tn T → ts T i ≤ 3 ∧ tr T i ≤ 8 ∧ (ts T i = 0 → tg T i ≤ 12) ∧ (ts T i ≠ 0 → tg T i ≤ 9)
theorem tNd_c {T : Tm} (h : tNd T) : tNc T := fun i hi => ⟨(h i hi).1, (h i hi).2.1, (h i hi).2.2.1, (h i hi).2.2.2.1⟩
theorem tcode_ltc {T : Tm} (h : tNc T) {i : Nat} (hi : i < tn T) : tcode T i < 1024 ∧ tcode T i / 256 = ts T i ∧ tcode T i / 16 = ts T i * 16 + tg T i ∧ tcode T i / 16 % 16 = tg T i ∧ tcode T i % 16 = tr T i := by
  obtain ⟨h1, h2, h3, h4⟩ := h i hi
  have h5 : tg T i ≤ 12 := by
    by_cases h0 : ts T i = 0
    · exact h3 h0
    · have := h4 h0; omega
  unfold tcode
  omega
section ZSE
variable {F : Nat} {K : zK} {I : zI} {R : zR} {t i : Nat} {T : Tm}
theorem zTk_row {I' : zI} (h : zTk K I R t T) (h1 : I' t = I t) (h2 : I' (t + 1) = I (t + 1)) : zTk K I' R t T := by
  obtain ⟨a1, a2, a3, a4, a5, a6, a7, a8, a9⟩ := h
  exact ⟨a1, a2, a3, a4, a5, a6, a7, by rw [h1]; exact a8, by rw [h2]; exact a9⟩
theorem zTk_of (h : zTc K I R t T) : zTk K I R t T := by
  obtain ⟨a1, a2, a3, a4, a5, a6, a7, a8, a9⟩ := h
  exact ⟨a1, a2, a3, a4, a5, a6, a7, a8, fun i hi => (a9 i hi).1⟩
theorem X5_argumentsOf_k (h : zTk K I R t T) (hN : tNc T) (hn : tn T ≤ 32) (hi : i < tn T) : f_X5_argumentsOf F K I R t (nI i) = some (nI (tr T i)) := by
  obtain ⟨h1, h2, h3, h4, h5, h6, h7, h8, h9⟩ := h
  obtain ⟨c1, -, -, -, c2⟩ := tcode_ltc hN hi
  unfold f_X5_argumentsOf
  rw [if_neg (nI_pos (by omega)), h8, if_neg (nI_ge hi (by omega)), h5, zbd_s, zdr_s (t := 1) (by rw [h2]), zbd_s, zrd_s (by rw [h2]; show i < 32; omega) (by rw [h2]; decide), zbd_s, h9 i hi, nI_and15 _ c1, c2]
theorem X5_spanOf_k (h : zTk K I R t T) (hn : tn T ≤ 32) (hi : i < tn T) : f_X5_spanOf F K I R t (nI i) = some (I (t + 2) i) := by
  obtain ⟨h1, h2, h3, h4, h5, h6, h7, h8, h9⟩ := h
  unfold f_X5_spanOf
  rw [if_neg (nI_pos (by omega)), h8, if_neg (nI_ge hi (by omega)), h6, zbd_s, zdr_s (t := 1) (by rw [h3]), zbd_s, zrd_s (by rw [h3]; show i < 32; omega) (by rw [h3]; decide), zbd_s]
theorem X5_depthOf_k (h : zTk K I R t T) (hn : tn T ≤ 32) (hi : i < tn T) : f_X5_depthOf F K I R t (nI i) = some (I (t + 3) i) := by
  obtain ⟨h1, h2, h3, h4, h5, h6, h7, h8, h9⟩ := h
  unfold f_X5_depthOf
  rw [if_neg (nI_pos (by omega)), h8, if_neg (nI_ge hi (by omega)), h7, zbd_s, zdr_s (t := 1) (by rw [h4]), zbd_s, zrd_s (by rw [h4]; show i < 32; omega) (by rw [h4]; decide), zbd_s]
theorem settle21 (hT : tSh T) (hr : ∀ i, i < tn T → tr T i ≤ 8) (hi : i < tn T) (k7 : zI → Int32 → Option zI) : ∀ (d x f : Nat) (I : zI), zTk K I R t T → (∀ j, i < j → j < tn T → I (t + 2) j = nI (tsp T j)) → x + d = tr T i → d < f → f_X5_settle_21 F K R t k7 f I (nI i) (nI (tc T i x)) (nI d) = k7 (zup I (t + 2) i (nI (tsp T i))) (nI i + (-1)) := by
  have hn := hT.2.1
  have hri := hr i hi
  intro d
  induction d with
  | zero =>
    intro x f I h hI hx hf
    obtain ⟨f, rfl⟩ : ∃ g, f = g + 1 := ⟨f - 1, by omega⟩
    have he := tc_end hT hi
    show g_X5_settle_21 F K R t k7 _ I (nI i) (nI (tc T i x)) (nI 0) = _
    unfold g_X5_settle_21
    rw [if_pos (by decide), h.2.2.2.2.2.1, zbd_s, zdr_s (t := 1) (by rw [h.2.2.1]), zbd_s, zwr_s (by rw [h.2.2.1]; show i < 32; omega) (by rw [h.2.2.1]; decide), zbd_s, show x = tr T i by omega, he.1, nI_sub (by omega), Nat.add_sub_cancel_left]
  | succ d ih =>
    intro x f I h hI hx hf
    obtain ⟨f, rfl⟩ : ∃ g, f = g + 1 := ⟨f - 1, by omega⟩
    obtain ⟨c1, c2, c3⟩ := tc_lt hT hi (show x < tr T i by omega)
    show g_X5_settle_21 F K R t k7 _ I (nI i) (nI (tc T i x)) (nI (d + 1)) = _
    unfold g_X5_settle_21
    rw [if_neg (nI_nle (by omega) (by omega)), X5_spanOf_k h hn c3, hI _ c1 c3, zbd_s, zbd_s, nI_add, ← tc_succ, nI_m1]
    exact ih (x + 1) f I h hI (by omega) (by omega)
theorem settle7 (hF : 100 ≤ F) (hT : tSh T) (hN : tNc T) : ∀ (m f : Nat) (I : zI), zTk K I R t T → m ≤ tn T → (∀ j, m ≤ j → j < tn T → I (t + 2) j = nI (tsp T j)) → m < f → f_X5_settle_7 F K R t f I (nI m + (-1)) = f_X5_settle_56 F K R t F (zrw I (t + 2) 0 m (fun j => nI (tsp T j))) 0 := by
  have hn := hT.2.1
  intro m
  induction m with
  | zero =>
    intro f I h hm hI hf
    obtain ⟨f, rfl⟩ : ∃ g, f = g + 1 := ⟨f - 1, by omega⟩
    show g_X5_settle_7 F K R t _ I (nI 0 + (-1)) = _
    unfold g_X5_settle_7
    rw [if_pos (by decide), zrw_end _ _ _ (Nat.le_refl _)]
  | succ m ih =>
    intro f I h hm hI hf
    obtain ⟨f, rfl⟩ : ∃ g, f = g + 1 := ⟨f - 1, by omega⟩
    show g_X5_settle_7 F K R t _ I (nI (m + 1) + (-1)) = _
    unfold g_X5_settle_7
    have hr8 := (hN m (by omega)).2.1
    have h1 := settle21 (F := F) hT (fun i hi => (hN i hi).2.1) (show m < tn T by omega) (f_X5_settle_7 F K R t f) (tr T m) 0 F I h (fun j h1 h2 => hI j (by omega) h2) (by omega) (by omega)
    rw [show tc T m 0 = m + 1 from rfl] at h1
    rw [nI_m1, if_neg (nI_pos (by omega)), zbd_s, nI_1, X5_argumentsOf_k h hN hn (by omega), zbd_s, h1, ih f _ (zTk_row h (zup_ne _ _ _ (by omega)) (zup_ne _ _ _ (by omega))) (by omega) (fun j h1 h2 => by
      rw [zup_row]
      by_cases hj : j = m
      · rw [if_pos hj, hj]
      · rw [if_neg hj]
        exact hI j (by omega) h2) (by omega)]
    refine congrArg (fun z => f_X5_settle_56 F K R t F z 0) ?_
    funext b j
    simp only [zrw, zup]
    by_cases hb : b = t + 2
    · by_cases h2 : j < m
      · rw [if_pos ⟨hb, by omega, h2⟩, if_pos ⟨hb, by omega, by omega⟩]
      · rw [if_neg (by omega)]
        by_cases h3 : j = m
        · rw [if_pos ⟨hb, h3⟩, if_pos ⟨hb, by omega, by omega⟩, h3]
        · rw [if_neg (by omega), if_neg (by omega)]
    · rw [if_neg (by omega), if_neg (by omega), if_neg (by omega)]
theorem settle74 (hT : tSh T) (hN : tNc T) (hi : i < tn T) (k56 : zI → Int32 → Option zI) : ∀ (d x f : Nat) (I : zI), zTk K I R t T → (∀ j, j < tn T → I (t + 2) j = nI (tsp T j)) → I (t + 3) i = nI (tdp T i) → x + d = tr T i → d < f → ∃ I', f_X5_settle_74 F K R t k56 f I (nI i) (nI (tc T i x)) (nI d) = k56 I' (nI (i + 1)) ∧ (∀ b, b ≠ t + 3 → I' b = I b) ∧ ∀ j, j < tn T → ((∃ y, x ≤ y ∧ y < tr T i ∧ j = tc T i y) → I' (t + 3) j = nI (tdp T j)) ∧ ((¬ ∃ y, x ≤ y ∧ y < tr T i ∧ j = tc T i y) → I' (t + 3) j = I (t + 3) j) := by
  have hn := hT.2.1
  have hri := (hN i hi).2.1
  intro d
  induction d with
  | zero =>
    intro x f I h hI hd hx hf
    obtain ⟨f, rfl⟩ : ∃ g, f = g + 1 := ⟨f - 1, by omega⟩
    refine ⟨I, ?_, fun _ _ => rfl, fun j hj => ⟨fun ⟨y, y1, y2, _⟩ => by omega, fun _ => rfl⟩⟩
    show g_X5_settle_74 F K R t k56 _ I (nI i) (nI (tc T i x)) (nI 0) = _
    unfold g_X5_settle_74
    rw [if_pos (by decide), nI_1]
  | succ d ih =>
    intro x f I h hI hd hx hf
    obtain ⟨f, rfl⟩ : ∃ g, f = g + 1 := ⟨f - 1, by omega⟩
    obtain ⟨c1, c2, c3⟩ := tc_lt hT hi (show x < tr T i by omega)
    have hdp := hT.2.2.2.2.2.2 i hi x (by omega)
    have h1 : zTk K (zup I (t + 3) (tc T i x) (nI (tdp T i + 1))) R t T := zTk_row h (zup_ne _ _ _ (by omega)) (zup_ne _ _ _ (by omega))
    have e2 : ∀ j, j < tn T → zup I (t + 3) (tc T i x) (nI (tdp T i + 1)) (t + 2) j = nI (tsp T j) := fun j hj => by rw [zup_nb _ _ _ (by omega)]; exact hI j hj
    obtain ⟨I', a1, a2, a3⟩ := ih (x + 1) f _ h1 e2 (by rw [zup_self_ne _ _ _ (by omega)]; exact hd) (by omega) (by omega)
    refine ⟨I', ?_, fun b hb => by rw [a2 b hb, zup_ne _ _ _ hb], fun j hj => ⟨fun ⟨y, y1, y2, y3⟩ => ?_, fun hno => ?_⟩⟩
    · show g_X5_settle_74 F K R t k56 _ I (nI i) (nI (tc T i x)) (nI (d + 1)) = _
      unfold g_X5_settle_74 f_X5_settle_99
      rw [if_neg (nI_nle (by omega) (by omega)), h.2.2.2.2.2.2.2.1, if_neg (nI_ge c3 (by omega)), h.2.2.2.2.2.2.1, zbd_s, X5_depthOf_k h hn hi, hd, zbd_s, zdr_s (t := 1) (by rw [h.2.2.2.1]), zbd_s, nI_1, zwr_s (by rw [h.2.2.2.1]; show tc T i x < 32; omega) (by rw [h.2.2.2.1]; decide), zbd_s, X5_spanOf_k h1 hn c3, e2 _ c3, zbd_s, zbd_s, nI_add, ← tc_succ, nI_m1]
      exact a1
    · by_cases hy : ∃ y, x + 1 ≤ y ∧ y < tr T i ∧ j = tc T i y
      · exact (a3 j hj).1 hy
      · have hyx : y = x := by
          rcases Nat.lt_or_ge x y with h | h
          · exact absurd ⟨y, h, y2, y3⟩ hy
          · omega
        rw [(a3 j hj).2 hy, y3, hyx, zup_self, hdp]
    · rw [(a3 j hj).2 (fun ⟨y, y1, y2, y3⟩ => hno ⟨y, by omega, y2, y3⟩), zup_self_ne _ _ _ (fun e => hno ⟨x, Nat.le_refl _, by omega, e⟩)]
theorem settle56 (hF : 100 ≤ F) (hT : tSh T) (hN : tNc T) : ∀ (d i f : Nat) (I : zI), zTk K I R t T → (∀ j, j < tn T → I (t + 2) j = nI (tsp T j)) → I (t + 3) 0 = nI (tdp T 0) → (∀ i' k, i' < i → i' < tn T → k < tr T i' → I (t + 3) (tc T i' k) = nI (tdp T (tc T i' k))) → i + d = tn T → d < f → ∃ I', f_X5_settle_56 F K R t f I (nI i) = some I' ∧ zTc K I' R t T ∧ ∀ b, b ≠ t + 3 → I' b = I b := by
  have hn := hT.2.1
  intro d
  induction d with
  | zero =>
    intro i f I h hI h0 hc hx hf
    obtain ⟨f, rfl⟩ : ∃ g, f = g + 1 := ⟨f - 1, by omega⟩
    refine ⟨I, ?_, ?_, fun _ _ => rfl⟩
    · show g_X5_settle_56 F K R t _ I (nI i) = _
      unfold g_X5_settle_56
      rw [h.2.2.2.2.2.2.2.1, if_pos (nI_le (by omega) (by omega))]
    · obtain ⟨a1, a2, a3, a4, a5, a6, a7, a8, a9⟩ := h
      refine ⟨a1, a2, a3, a4, a5, a6, a7, a8, fun j hj => ⟨a9 j hj, hI j hj, ?_⟩⟩
      by_cases hz : j = 0
      · subst hz; exact h0
      · obtain ⟨i', k, b1, b2, b3, b4⟩ := tch hT (show 0 < j by omega) hj
        rw [b4]
        exact hc i' k (by omega) b1 b3
  | succ d ih =>
    intro i f I h hI h0 hc hx hf
    obtain ⟨f, rfl⟩ : ∃ g, f = g + 1 := ⟨f - 1, by omega⟩
    have hi : i < tn T := by omega
    have hr8 := (hN i hi).2.1
    have hdi : I (t + 3) i = nI (tdp T i) := by
      by_cases hz : i = 0
      · rw [hz]; exact h0
      · obtain ⟨i', k, b1, b2, b3, b4⟩ := tch hT (show 0 < i by omega) hi
        rw [b4]
        exact hc i' k b2 b1 b3
    obtain ⟨I1, a1, a2, a3⟩ := settle74 (F := F) hT hN hi (f_X5_settle_56 F K R t f) (tr T i) 0 F I h hI hdi (by omega) (by omega)
    have a4 : ∀ j, j < tn T → I (t + 3) j = nI (tdp T j) → I1 (t + 3) j = nI (tdp T j) := fun j hj hv => by
      by_cases hy : ∃ y, 0 ≤ y ∧ y < tr T i ∧ j = tc T i y
      · exact (a3 j hj).1 hy
      · rw [(a3 j hj).2 hy]; exact hv
    obtain ⟨I', b1, b2, b3⟩ := ih (i + 1) f I1 (zTk_row h (a2 _ (by omega)) (a2 _ (by omega))) (fun j hj => by rw [a2 _ (by omega)]; exact hI j hj) (a4 0 (by omega) h0) (fun i' k c1 c2 c3 => by
      obtain ⟨-, -, d3⟩ := tc_lt hT c2 c3
      by_cases hii : i' = i
      · subst hii
        exact (a3 _ d3).1 ⟨k, Nat.zero_le _, c3, rfl⟩
      · exact a4 _ d3 (hc i' k (by omega) c2 c3)) (by omega) (by omega)
    refine ⟨I', ?_, b2, fun b hb => by rw [b3 b hb, a2 b hb]⟩
    show g_X5_settle_56 F K R t _ I (nI i) = _
    unfold g_X5_settle_56
    rw [h.2.2.2.2.2.2.2.1, if_neg (nI_ge hi (by omega)), zbd_s, nI_1, X5_argumentsOf_k h hN hn hi, zbd_s]
    exact a1.trans b1
theorem X5_settle (hF : 100 ≤ F) (hT : tSh T) (hN : tNc T) (h : zTk K I R t T) (h0 : I (t + 3) 0 = 0) : ∃ I', f_X5_settle F K I R t = some I' ∧ zTc K I' R t T ∧ ∀ b, b ≠ t + 2 → b ≠ t + 3 → I' b = I b := by
  have hn := hT.2.1
  obtain ⟨I', a1, a2, a3⟩ := settle56 (F := F) hF hT hN (tn T) 0 F (zrw I (t + 2) 0 (tn T) (fun j => nI (tsp T j))) (zTk_row h (zrw_ne _ _ _ _ (by omega)) (zrw_ne _ _ _ _ (by omega))) (fun j hj => zrw_in _ _ _ (Nat.zero_le _) hj) (by rw [zrw_ne _ _ _ _ (by omega), hT.2.2.2.2.2.1]; exact h0) (fun _ _ h => by omega) (by omega) (by omega)
  refine ⟨I', ?_, a2, fun b h1 h2 => by rw [a3 b h2, zrw_ne _ _ _ _ h1]⟩
  unfold f_X5_settle
  rw [zbd_s, h.2.2.2.2.2.2.2.1, Int32.sub_eq_add_neg]
  exact (settle7 (F := F) hF hT hN (tn T) F I h (Nat.le_refl _) (fun j h1 h2 => by omega) (by omega)).trans a1
end ZSE
