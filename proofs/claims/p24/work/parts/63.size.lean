/-! STEP size -/
def cSy (T : Tm) : Nat → Nat
  | 0 => 0
  | j + 1 => cSy T j + (if ts T j = 0 then 1 else 0)
def cDp (T : Tm) : Nat → Nat
  | 0 => 0
  | j + 1 => if cDp T j < tdp T j then tdp T j else cDp T j
def cHl (T : Tm) : Nat → Int32
  | 0 => 0
  | j + 1 => if ts T j = 0 then cHl T j else cHl T j ||| ((1 : Int32) <<< (nI (tg T j) &&& 31))
theorem nI_orbit : ∀ m, m < 1024 → ∀ g, g < 10 → nI m ||| ((1 : Int32) <<< (nI g &&& 31)) = nI (m ||| 2 ^ g) ∧ (m ||| 2 ^ g) < 1024 := by decide +kernel
theorem cHl_lt {T : Tm} (h : tNd T) : ∀ j, j ≤ tn T → ∃ m, m < 1024 ∧ cHl T j = nI m := by
  intro j
  induction j with
  | zero => intro _; exact ⟨0, by decide, rfl⟩
  | succ j ih =>
    intro hj
    obtain ⟨m, h1, h2⟩ := ih (by omega)
    by_cases h0 : ts T j = 0
    · exact ⟨m, h1, by simp only [cHl]; rw [if_pos h0, h2]⟩
    · have h3 := (h j (by omega)).2.2.2.1 h0
      obtain ⟨e1, e2⟩ := nI_orbit m h1 (tg T j) (by omega)
      exact ⟨_, e2, by simp only [cHl]; rw [if_neg h0, h2, e1]⟩
theorem cDp_le {T : Tm} (h : tNd T) : ∀ j, j ≤ tn T → cDp T j ≤ 7 := by
  intro j
  induction j with
  | zero => intro _; exact Nat.zero_le _
  | succ j ih =>
    intro hj
    have h1 := ih (by omega)
    have h2 := (h j (by omega)).2.2.2.2.2.2
    simp only [cDp]
    by_cases h3 : cDp T j < tdp T j
    · rw [if_pos h3]; exact h2
    · rw [if_neg h3]; exact h1
theorem nI_z {a : Nat} (h : a < 2 ^ 31) : nI a = 0 ↔ a = 0 := nI_eq (b := 0) h (by decide)
section ZSZ
variable {F : Nat} {K : zK} {I : zI} {R : zR} {a : Nat} {T : Tm}
theorem symbols4 (h : zTc K I R a T) (hT : tWF T) : ∀ (d j t : Nat), j + d = tn T → d < t → f_X5_symbols_4 F K I R a t (nI (cSy T j)) (nI j) = some (nI (cSy T (tn T))) := by
  have hn := hT.1.2.1
  have hI := h.2.2.2.2.2.2.2.1
  intro d
  induction d with
  | zero =>
    intro j t hj ht
    obtain ⟨t, rfl⟩ : ∃ u, t = u + 1 := ⟨t - 1, by omega⟩
    show g_X5_symbols_4 F K I R a _ (nI (cSy T j)) (nI j) = _
    unfold g_X5_symbols_4
    rw [hI, if_pos (nI_le (by omega) (by omega)), show j = tn T by omega]
  | succ d ih =>
    intro j t hj ht
    obtain ⟨t, rfl⟩ : ∃ u, t = u + 1 := ⟨t - 1, by omega⟩
    have e := ih (j + 1) t (by omega) (by omega)
    have h4 := (hT.2.1 j (by omega)).1
    show g_X5_symbols_4 F K I R a _ (nI (cSy T j)) (nI j) = _
    unfold g_X5_symbols_4 f_X5_symbols_26
    rw [hI, if_neg (nI_ge (by omega) (by omega)), X5_sortOf h hT (by omega), zbd_s]
    simp only [cSy] at e
    by_cases h0 : ts T j = 0
    · rw [if_pos h0] at e
      rw [if_pos ((nI_z (by omega)).mpr h0), zbd_s, show (1 : Int32) = nI 1 from rfl, nI_add, nI_add]
      exact e
    · rw [if_neg h0] at e
      rw [if_neg (fun e => h0 ((nI_z (by omega)).mp e)), zbd_s, show (1 : Int32) = nI 1 from rfl, show (0 : Int32) = nI 0 from rfl, nI_add, nI_add]
      exact e
theorem depth4 (h : zTc K I R a T) (hT : tWF T) : ∀ (d j t : Nat), j + d = tn T → d < t → f_X5_greatestDepth_4 F K I R a t (nI (cDp T j)) (nI j) = some (nI (cDp T (tn T))) := by
  have hn := hT.1.2.1
  have hI := h.2.2.2.2.2.2.2.1
  intro d
  induction d with
  | zero =>
    intro j t hj ht
    obtain ⟨t, rfl⟩ : ∃ u, t = u + 1 := ⟨t - 1, by omega⟩
    show g_X5_greatestDepth_4 F K I R a _ (nI (cDp T j)) (nI j) = _
    unfold g_X5_greatestDepth_4
    rw [hI, if_pos (nI_le (by omega) (by omega)), show j = tn T by omega]
  | succ d ih =>
    intro j t hj ht
    obtain ⟨t, rfl⟩ : ∃ u, t = u + 1 := ⟨t - 1, by omega⟩
    have e := ih (j + 1) t (by omega) (by omega)
    have h4 := (hT.2.1 j (by omega)).2.2.2.2.2.2
    have h5 := cDp_le hT.2.1 j (by omega)
    show g_X5_greatestDepth_4 F K I R a _ (nI (cDp T j)) (nI j) = _
    unfold g_X5_greatestDepth_4
    rw [hI, if_neg (nI_ge (by omega) (by omega)), X5_depthOf h hT (by omega), zbd_s, zbd_s, show (1 : Int32) = nI 1 from rfl, nI_add]
    simp only [cDp] at e
    by_cases h0 : cDp T j < tdp T j
    · rw [if_pos h0] at e
      rw [if_pos (Int32.not_le.mp (nI_ge h0 (by omega)))]
      exact e
    · rw [if_neg h0] at e
      rw [if_neg (Int32.not_lt.mpr (nI_le (by omega) (by omega)))]
      exact e
theorem holes4 (h : zTc K I R a T) (hT : tWF T) : ∀ (d j t : Nat), j + d = tn T → d < t → f_X5_holes_4 F K I R a t (cHl T j) (nI j) = some (cHl T (tn T)) := by
  have hn := hT.1.2.1
  have hI := h.2.2.2.2.2.2.2.1
  intro d
  induction d with
  | zero =>
    intro j t hj ht
    obtain ⟨t, rfl⟩ : ∃ u, t = u + 1 := ⟨t - 1, by omega⟩
    show g_X5_holes_4 F K I R a _ (cHl T j) (nI j) = _
    unfold g_X5_holes_4
    rw [hI, if_pos (nI_le (by omega) (by omega)), show j = tn T by omega]
  | succ d ih =>
    intro j t hj ht
    obtain ⟨t, rfl⟩ : ∃ u, t = u + 1 := ⟨t - 1, by omega⟩
    have e := ih (j + 1) t (by omega) (by omega)
    have h4 := (hT.2.1 j (by omega)).1
    show g_X5_holes_4 F K I R a _ (cHl T j) (nI j) = _
    unfold g_X5_holes_4 f_X5_holes_30
    rw [hI, if_neg (nI_ge (by omega) (by omega)), X5_sortOf h hT (by omega), zbd_s]
    simp only [cHl] at e
    by_cases h0 : ts T j = 0
    · rw [if_pos h0] at e
      rw [if_pos ((nI_z (by omega)).mpr h0), nI_1]
      exact e
    · rw [if_neg h0] at e
      rw [if_neg (fun e => h0 ((nI_z (by omega)).mp e)), X5_numberOf h hT (by omega), zbd_s, zbd_s, nI_1]
      exact e
end ZSZ
section ZSR
variable {F : Nat} {J : zI} {RM : zR} {o : Nat} {T : Tm}
theorem holesOf4 (hR0 : RM 89 0 = some 90) (ho : o + 97 ≤ 5751) (h : zTm (J 90) o T) (hT : tWF T) : ∀ (d j t : Nat), j + d = tn T → d < t → f_X7_holesOf_4 F zKm J RM 89 t (nI o) (cHl T j) (nI j) = some (cHl T (tn T)) := by
  have hn := hT.1.2.1
  intro d
  induction d with
  | zero =>
    intro j t hj ht
    obtain ⟨t, rfl⟩ : ∃ u, t = u + 1 := ⟨t - 1, by omega⟩
    show g_X7_holesOf_4 F zKm J RM 89 _ (nI o) (cHl T j) (nI j) = _
    unfold g_X7_holesOf_4
    rw [hR0, zbd_s, zd91, zbd_s, zrd_s (by rw [zKm91]; show o < 5751; omega) (by decide), zbd_s, h.1, if_pos (nI_le (by omega) (by omega)), show j = tn T by omega]
  | succ d ih =>
    intro j t hj ht
    obtain ⟨t, rfl⟩ : ∃ u, t = u + 1 := ⟨t - 1, by omega⟩
    have e := ih (j + 1) t (by omega) (by omega)
    have h4 := (hT.2.1 j (by omega)).1
    show g_X7_holesOf_4 F zKm J RM 89 _ (nI o) (cHl T j) (nI j) = _
    unfold g_X7_holesOf_4 f_X7_holesOf_36
    rw [hR0, zbd_s, zd91, zbd_s, zrd_s (by rw [zKm91]; show o < 5751; omega) (by decide), zbd_s, h.1, if_neg (nI_ge (by omega) (by omega)), X7_sort hR0 ho h hn (by omega), zbd_s]
    simp only [cHl] at e
    by_cases h0 : ts T j = 0
    · rw [if_pos h0] at e
      rw [if_pos ((nI_z (by omega)).mpr h0), zbd_s, nI_1, Int32.or_zero]
      exact e
    · rw [if_neg h0] at e
      rw [if_neg (fun e => h0 ((nI_z (by omega)).mp e)), X7_number hR0 ho h hn (by omega), zbd_s, zbd_s, nI_1]
      exact e
theorem size26 (hR0 : RM 89 0 = some 90) (hR7 : RM 89 7 = some 94) (ho : o + 97 ≤ 5751) (h : zTm (J 90) o T) (hT : tWF T) (hD : ∀ j, j < tn T → J 94 j = nI (tdp T j)) (q m : Int32) : ∀ (d j t : Nat), j + d = tn T → d < t → f_X7_sizeOf_26 F zKm RM 89 t J q (nI o) m (nI (cSy T j)) (nI (cDp T j)) (nI j) = f_X7_sizeOf_98 F zKm RM 89 F J q (nI o) m (nI (cSy T (tn T))) (nI (cDp T (tn T))) 0 0 0 := by
  have hn := hT.1.2.1
  have K95 : zKm 94 = (1, 32) := rfl
  intro d
  induction d with
  | zero =>
    intro j t hj ht
    obtain ⟨t, rfl⟩ : ∃ u, t = u + 1 := ⟨t - 1, by omega⟩
    show g_X7_sizeOf_26 F zKm RM 89 _ J q (nI o) m (nI (cSy T j)) (nI (cDp T j)) (nI j) = _
    unfold g_X7_sizeOf_26
    rw [hR0, zbd_s, zd91, zbd_s, zrd_s (by rw [zKm91]; show o < 5751; omega) (by decide), zbd_s, h.1, if_pos (nI_le (by omega) (by omega)), show j = tn T by omega]
  | succ d ih =>
    intro j t hj ht
    obtain ⟨t, rfl⟩ : ∃ u, t = u + 1 := ⟨t - 1, by omega⟩
    have e := ih (j + 1) t (by omega) (by omega)
    have h4 := (hT.2.1 j (by omega)).1
    have h6 := (hT.2.1 j (by omega)).2.2.2.2.2.2
    have h5 := cDp_le hT.2.1 j (by omega)
    have hc : ∀ s : Nat, f_X7_sizeOf_54 F zKm RM 89 (f_X7_sizeOf_26 F zKm RM 89 t) J q (nI o) m (nI (cDp T j)) (nI j) (nI (cSy T j)) (nI s) = f_X7_sizeOf_26 F zKm RM 89 t J q (nI o) m (nI (cSy T j + s)) (nI (cDp T (j + 1))) (nI (j + 1)) := by
      intro s
      unfold f_X7_sizeOf_54 f_X7_sizeOf_81
      rw [zbd_s, hR7, zbd_s, zdr_s (t := 1) (by rw [K95]), zbd_s, zrd_s (by rw [K95]; show j < 32; omega) (by rw [K95]; decide), zbd_s, zbd_s, hD j (by omega), nI_add]
      simp only [cDp]
      by_cases h0 : cDp T j < tdp T j
      · rw [if_pos h0, if_neg (nI_ge h0 (by omega)), zdr_s (t := 1) (by rw [K95]), zbd_s, zrd_s (by rw [K95]; show j < 32; omega) (by rw [K95]; decide), zbd_s, hD j (by omega), show (1 : Int32) = nI 1 from rfl, nI_add]
      · rw [if_neg h0, if_pos (nI_le (by omega) (by omega)), show (1 : Int32) = nI 1 from rfl, nI_add]
    show g_X7_sizeOf_26 F zKm RM 89 _ J q (nI o) m (nI (cSy T j)) (nI (cDp T j)) (nI j) = _
    unfold g_X7_sizeOf_26
    rw [hR0, zbd_s, zd91, zbd_s, zrd_s (by rw [zKm91]; show o < 5751; omega) (by decide), zbd_s, h.1, if_neg (nI_ge (by omega) (by omega)), X7_sort hR0 ho h hn (by omega), zbd_s]
    by_cases h0 : ts T j = 0
    · rw [if_pos ((nI_z (by omega)).mpr h0), show (1 : Int32) = nI 1 from rfl, hc 1, ← e]
      simp only [cSy]
      rw [if_pos h0]
    · rw [if_neg (fun e => h0 ((nI_z (by omega)).mp e)), show (0 : Int32) = nI 0 from rfl, hc 0]
      rw [show (nI 0 : Int32) = 0 from rfl, ← e]
      simp only [cSy]
      rw [if_neg h0]
end ZSR
