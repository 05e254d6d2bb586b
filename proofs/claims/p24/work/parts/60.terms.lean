/-! TERMS on both sides: single nodes, spans -/
theorem nI_shr8 : ∀ c, c < 1024 → nI c >>> ((8 : Int32) &&& 31) = nI (c / 256) := by decide +kernel
theorem nI_shr4 : ∀ c, c < 1024 → nI c >>> ((4 : Int32) &&& 31) = nI (c / 16) := by decide +kernel
theorem nI_and15 : ∀ c, c < 1024 → nI c &&& (15 : Int32) = nI (c % 16) := by decide +kernel
theorem nI_m1 (a : Nat) : nI (a + 1) + (-1 : Int32) = nI a := by
  rw [← nI_1, ← Int32.sub_eq_add_neg, Int32.add_sub_cancel]
theorem tcode_lt {T : Tm} (h : tNd T) {i : Nat} (hi : i < tn T) : tcode T i < 1024 ∧ tcode T i / 256 = ts T i ∧ tcode T i / 16 = ts T i * 16 + tg T i ∧ tcode T i / 16 % 16 = tg T i ∧ tcode T i % 16 = tr T i := by
  obtain ⟨h1, h2, h3, h4, -⟩ := h i hi
  have h5 : tg T i ≤ 12 := by
    by_cases h0 : ts T i = 0
    · exact h3 h0
    · have := h4 h0; omega
  unfold tcode
  omega
theorem tc_lt {T : Tm} (h : tSh T) {i k : Nat} (hi : i < tn T) (hk : k < tr T i) : i < tc T i k ∧ tc T i k < i + tsp T i ∧ tc T i k < tn T := by
  obtain ⟨-, -, h1, h2, -⟩ := h
  have h3 := wk_mono (tsp T) (show k + 1 ≤ tr T i from hk) (i + 1)
  rw [wk_succ, (h2 i hi).2] at h3
  have h4 := wk_le (tsp T) k (i + 1)
  have h5 := h1 (wk (tsp T) k (i + 1))
  have h6 := (h2 i hi).1
  show i < wk (tsp T) k (i + 1) ∧ wk (tsp T) k (i + 1) < _ ∧ wk (tsp T) k (i + 1) < _
  omega
section ZT
variable {F : Nat} {K : zK} {I : zI} {R : zR} {t i : Nat} {T : Tm}
theorem X5_sortOf (h : zTc K I R t T) (hT : tWF T) (hi : i < tn T) : f_X5_sortOf F K I R t (nI i) = some (nI (ts T i)) := by
  obtain ⟨h1, h2, h3, h4, h5, h6, h7, h8, h9⟩ := h
  have hn := hT.1.2.1
  obtain ⟨c1, c2, -⟩ := tcode_lt hT.2.1 hi
  unfold f_X5_sortOf
  rw [if_neg (nI_pos (by omega)), h8, if_neg (nI_ge hi (by omega)), h5, zbd_s, zdr_s (t := 1) (by rw [h2]), zbd_s, zrd_s (by rw [h2]; show i < 32; omega) (by rw [h2]; decide), zbd_s, (h9 i hi).1, nI_shr8 _ c1, c2]
theorem X5_headOf (h : zTc K I R t T) (hT : tWF T) (hi : i < tn T) : f_X5_headOf F K I R t (nI i) = some (nI (ts T i * 16 + tg T i)) := by
  obtain ⟨h1, h2, h3, h4, h5, h6, h7, h8, h9⟩ := h
  have hn := hT.1.2.1
  obtain ⟨c1, -, c2, -⟩ := tcode_lt hT.2.1 hi
  unfold f_X5_headOf
  rw [if_neg (nI_pos (by omega)), h8, if_neg (nI_ge hi (by omega)), h5, zbd_s, zdr_s (t := 1) (by rw [h2]), zbd_s, zrd_s (by rw [h2]; show i < 32; omega) (by rw [h2]; decide), zbd_s, (h9 i hi).1, nI_shr4 _ c1, c2]
theorem X5_numberOf (h : zTc K I R t T) (hT : tWF T) (hi : i < tn T) : f_X5_numberOf F K I R t (nI i) = some (nI (tg T i)) := by
  obtain ⟨h1, h2, h3, h4, h5, h6, h7, h8, h9⟩ := h
  have hn := hT.1.2.1
  obtain ⟨c1, -, -, c2, -⟩ := tcode_lt hT.2.1 hi
  unfold f_X5_numberOf
  rw [if_neg (nI_pos (by omega)), h8, if_neg (nI_ge hi (by omega)), h5, zbd_s, zdr_s (t := 1) (by rw [h2]), zbd_s, zrd_s (by rw [h2]; show i < 32; omega) (by rw [h2]; decide), zbd_s, (h9 i hi).1, nI_shr4 _ c1, nI_and15 _ (by omega), c2]
theorem X5_argumentsOf (h : zTc K I R t T) (hT : tWF T) (hi : i < tn T) : f_X5_argumentsOf F K I R t (nI i) = some (nI (tr T i)) := by
  obtain ⟨h1, h2, h3, h4, h5, h6, h7, h8, h9⟩ := h
  have hn := hT.1.2.1
  obtain ⟨c1, -, -, -, c2⟩ := tcode_lt hT.2.1 hi
  unfold f_X5_argumentsOf
  rw [if_neg (nI_pos (by omega)), h8, if_neg (nI_ge hi (by omega)), h5, zbd_s, zdr_s (t := 1) (by rw [h2]), zbd_s, zrd_s (by rw [h2]; show i < 32; omega) (by rw [h2]; decide), zbd_s, (h9 i hi).1, nI_and15 _ c1, c2]
theorem X5_spanOf (h : zTc K I R t T) (hT : tWF T) (hi : i < tn T) : f_X5_spanOf F K I R t (nI i) = some (nI (tsp T i)) := by
  obtain ⟨h1, h2, h3, h4, h5, h6, h7, h8, h9⟩ := h
  have hn := hT.1.2.1
  unfold f_X5_spanOf
  rw [if_neg (nI_pos (by omega)), h8, if_neg (nI_ge hi (by omega)), h6, zbd_s, zdr_s (t := 1) (by rw [h3]), zbd_s, zrd_s (by rw [h3]; show i < 32; omega) (by rw [h3]; decide), zbd_s, (h9 i hi).2.1]
theorem X5_depthOf (h : zTc K I R t T) (hT : tWF T) (hi : i < tn T) : f_X5_depthOf F K I R t (nI i) = some (nI (tdp T i)) := by
  obtain ⟨h1, h2, h3, h4, h5, h6, h7, h8, h9⟩ := h
  have hn := hT.1.2.1
  unfold f_X5_depthOf
  rw [if_neg (nI_pos (by omega)), h8, if_neg (nI_ge hi (by omega)), h7, zbd_s, zdr_s (t := 1) (by rw [h4]), zbd_s, zrd_s (by rw [h4]; show i < 32; omega) (by rw [h4]; decide), zbd_s, (h9 i hi).2.2]
end ZT
section ZTM
variable {F : Nat} {J : zI} {RM : zR} {o i : Nat} {T : Tm}
theorem X7_sort (hR : RM 89 0 = some 90) (ho : o + 97 ≤ 5751) (h : zTm (J 90) o T) (hn : tn T ≤ 32) (hi : i < tn T) : f_X7_sort F zKm J RM 89 (nI o) (nI i) = some (nI (ts T i)) := by
  unfold f_X7_sort
  rw [hR, zbd_s, zd91, zbd_s, show (1 : Int32) = nI 1 from rfl, show (3 : Int32) = nI 3 from rfl, nI_mul, nI_add, nI_add, zrd_s (by rw [zKm91]; show o + 1 + 3 * i < 5751; omega) (by decide), zbd_s, (h.2 i hi).1]
theorem X7_number (hR : RM 89 0 = some 90) (ho : o + 97 ≤ 5751) (h : zTm (J 90) o T) (hn : tn T ≤ 32) (hi : i < tn T) : f_X7_number F zKm J RM 89 (nI o) (nI i) = some (nI (tg T i)) := by
  unfold f_X7_number
  rw [hR, zbd_s, zd91, zbd_s, show (2 : Int32) = nI 2 from rfl, show (3 : Int32) = nI 3 from rfl, nI_mul, nI_add, nI_add, zrd_s (by rw [zKm91]; show o + 2 + 3 * i < 5751; omega) (by decide), zbd_s, (h.2 i hi).2.1]
theorem X7_arguments (hR : RM 89 0 = some 90) (ho : o + 97 ≤ 5751) (h : zTm (J 90) o T) (hn : tn T ≤ 32) (hi : i < tn T) : f_X7_arguments F zKm J RM 89 (nI o) (nI i) = some (nI (tr T i)) := by
  unfold f_X7_arguments
  rw [hR, zbd_s, zd91, zbd_s, show (3 : Int32) = nI 3 from rfl, nI_mul, nI_add, nI_add, zrd_s (by rw [zKm91]; show o + 3 + 3 * i < 5751; omega) (by decide), zbd_s, (h.2 i hi).2.2]
/-- counts(): one node, from the x-th argument on -/
theorem counts21 (hR : RM 89 0 = some 90) (ho : o + 97 ≤ 5751) {w : Nat} (hw : zKm w = (1, 32)) (hw2 : w ≠ 90) (hT : tSh T) (hr : ∀ i, i < tn T → tr T i ≤ 32) (hi : i < tn T) (k9 : zI → Int32 → Option Nat → Int32 → Option zI) : ∀ (d x t : Nat) (J : zI), zTm (J 90) o T → (∀ j, i < j → j < tn T → J w j = nI (tsp T j)) → x + d = tr T i → d < t →
    f_X7_counts_21 F zKm RM 89 k9 t J (nI o) (some w) (nI i) (nI (wk (tsp T) x (i + 1))) (nI x) = k9 (zup J w i (nI (tsp T i))) (nI o) (some w) (nI i + (-1)) := by
  have hn := hT.2.1
  have hri := hr i hi
  intro d
  induction d with
  | zero =>
    intro x t J h hJ hx ht
    obtain ⟨t, rfl⟩ : ∃ u, t = u + 1 := ⟨t - 1, by omega⟩
    show g_X7_counts_21 F zKm RM 89 k9 _ J (nI o) (some w) (nI i) (nI (wk (tsp T) x (i + 1))) (nI x) = _
    unfold g_X7_counts_21
    have e1 : wk (tsp T) x (i + 1) = i + tsp T i := by rw [show x = tr T i by omega]; exact (hT.2.2.2.1 i hi).2
    rw [X7_arguments hR ho h hn hi, zbd_s, if_pos (nI_le (by omega) (by omega)), zdr_s (t := 1) (by rw [hw]), zbd_s, zwr_s (by rw [hw]; show i < 32; omega) (by rw [hw]; decide), zbd_s, e1, nI_sub (by omega), Nat.add_sub_cancel_left]
  | succ d ih =>
    intro x t J h hJ hx ht
    obtain ⟨t, rfl⟩ : ∃ u, t = u + 1 := ⟨t - 1, by omega⟩
    show g_X7_counts_21 F zKm RM 89 k9 _ J (nI o) (some w) (nI i) (nI (wk (tsp T) x (i + 1))) (nI x) = _
    unfold g_X7_counts_21
    obtain ⟨c1, c2, c3⟩ := tc_lt hT hi (show x < tr T i by omega)
    have c1 : i < wk (tsp T) x (i + 1) := c1
    have c3 : wk (tsp T) x (i + 1) < tn T := c3
    rw [X7_arguments hR ho h hn hi, zbd_s, if_neg (nI_ge (by omega) (by omega)), zdr_s (t := 1) (by rw [hw]), zbd_s, zrd_s (by rw [hw]; show wk (tsp T) x (i + 1) < 32; omega) (by rw [hw]; decide), zbd_s, hJ _ c1 c3, zbd_s, nI_add, ← wk_succ, show (1 : Int32) = nI 1 from rfl, nI_add]
    exact ih (x + 1) t J h hJ (by omega) (by omega)
theorem counts9 (hF : 100 ≤ F) (hR : RM 89 0 = some 90) (ho : o + 97 ≤ 5751) {w : Nat} (hw : zKm w = (1, 32)) (hw2 : w ≠ 90) (hT : tSh T) (hr : ∀ i, i < tn T → tr T i ≤ 32) : ∀ (m t : Nat) (J : zI), zTm (J 90) o T → m ≤ tn T → (∀ j, m ≤ j → j < tn T → J w j = nI (tsp T j)) → m < t →
    f_X7_counts_9 F zKm RM 89 t J (nI o) (some w) (nI m + (-1)) = some (zrw J w 0 m (fun j => nI (tsp T j))) := by
  have hn := hT.2.1
  intro m
  induction m with
  | zero =>
    intro t J h hm hJ ht
    obtain ⟨t, rfl⟩ : ∃ u, t = u + 1 := ⟨t - 1, by omega⟩
    show g_X7_counts_9 F zKm RM 89 _ J (nI o) (some w) (nI 0 + (-1)) = _
    unfold g_X7_counts_9
    rw [if_pos (by decide), zrw_end _ _ _ (Nat.le_refl _)]
  | succ m ih =>
    intro t J h hm hJ ht
    obtain ⟨t, rfl⟩ : ∃ u, t = u + 1 := ⟨t - 1, by omega⟩
    show g_X7_counts_9 F zKm RM 89 _ J (nI o) (some w) (nI (m + 1) + (-1)) = _
    unfold g_X7_counts_9
    rw [nI_m1, if_neg (nI_pos (by omega)), zbd_s, show (1 : Int32) = nI 1 from rfl, nI_add, show (0 : Int32) = nI 0 from rfl]
    have h1 := counts21 (F := F) hR ho hw hw2 hT hr (show m < tn T by omega) (f_X7_counts_9 F zKm RM 89 t) (tr T m) 0 F J h (fun j h1 h2 => hJ j (by omega) h2) (by omega) (by have := hr m (by omega); omega)
    rw [show wk (tsp T) 0 (m + 1) = m + 1 from rfl] at h1
    rw [h1, ih t _ (by rw [zup_ne _ _ _ (fun e => hw2 e.symm)]; exact h) (by omega) (fun j h1 h2 => by
      rw [zup_row]
      by_cases hj : j = m
      · rw [if_pos hj, hj]
      · rw [if_neg hj]
        exact hJ j (by omega) h2) (by omega)]
    refine congrArg some ?_
    funext b j
    simp only [zrw, zup]
    by_cases hb : b = w
    · by_cases h2 : j < m
      · rw [if_pos ⟨hb, by omega, h2⟩, if_pos ⟨hb, by omega, by omega⟩]
      · rw [if_neg (by omega)]
        by_cases h3 : j = m
        · rw [if_pos ⟨hb, h3⟩, if_pos ⟨hb, by omega, by omega⟩, h3]
        · rw [if_neg (by omega), if_neg (by omega)]
    · rw [if_neg (by omega), if_neg (by omega), if_neg (by omega)]
theorem X7_counts (hF : 100 ≤ F) (hR : RM 89 0 = some 90) (ho : o + 97 ≤ 5751) {w : Nat} (hw : zKm w = (1, 32)) (hw2 : w ≠ 90) (hT : tSh T) (hr : ∀ i, i < tn T → tr T i ≤ 32) (h : zTm (J 90) o T) : f_X7_counts F zKm J RM 89 (nI o) (some w) = some (zrw J w 0 (tn T) (fun j => nI (tsp T j))) := by
  have hn := hT.2.1
  have h1 := hT.1
  unfold f_X7_counts
  rw [hR, zbd_s, zd91, zbd_s, zrd_s (by rw [zKm91]; show o < 5751; omega) (by decide), zbd_s, zbd_s, h.1, Int32.sub_eq_add_neg]
  exact counts9 hF hR ho hw hw2 hT hr (tn T) F J h (Nat.le_refl _) (fun j h2 h3 => by omega) (by omega)
end ZTM
