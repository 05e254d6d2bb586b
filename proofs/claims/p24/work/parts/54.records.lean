/-! THE REFERENCE's page: copies of blocks -/
theorem nI_mul (a b : Nat) : nI a * nI b = nI (a * b) := (Int32.ofNat_mul a b).symm
def zpg (J : zI) (f : Nat → Int32) : zI := fun b q => if b = 90 then f q else J b q
theorem zpg_91 (J : zI) (f : Nat → Int32) : zpg J f 90 = f := by funext q; simp [zpg]
theorem zpg_ne (J : zI) (f : Nat → Int32) {b : Nat} (h : b ≠ 90) : zpg J f b = J b := by funext q; simp [zpg, h]
theorem zpg_eq {J J' : zI} {f : Nat → Int32} (h : ∀ b, b ≠ 90 → ∀ q, J' b q = J b q) (h2 : ∀ q, J' 90 q = f q) : J' = zpg J f := by
  funext b q
  by_cases hb : b = 90
  · subst hb; rw [zpg_91]; exact h2 q
  · rw [zpg_ne _ _ hb]; exact h b hb q
theorem zKm91 : zKm 90 = (1, 5751) := rfl
theorem zd91 : zdr zKm (some 90) 1 = some 90 := rfl
/-- the block c gets what block 0 holds, from x on -/
theorem records64 (F : Nat) {RM : zR} (hR : RM 89 0 = some 90) (c : Nat) (hc1 : 1 ≤ c) (hc : c ≤ 6) : ∀ (d x t : Nat) (J : zI), x + d = 780 → d < t → J 89 1 = nI c →
    f_X7_records_64 F zKm RM 89 t J (nI x) = some (zpg J (fun q => if 780 * c + x ≤ q ∧ q < 780 * c + 780 then J 90 (q - 780 * c) else J 90 q)) := by
  intro d
  induction d with
  | zero =>
    intro x t J hx ht hJ
    obtain ⟨t, rfl⟩ : ∃ u, t = u + 1 := ⟨t - 1, by omega⟩
    show g_X7_records_64 F zKm RM 89 _ J (nI x) = _
    unfold g_X7_records_64
    rw [if_pos (show (780 : Int32) ≤ nI x from nI_le (a := 780) (by omega) (by omega))]
    refine congrArg some (zpg_eq (fun _ _ _ => rfl) (fun q => ?_))
    rw [if_neg (by omega)]
  | succ d ih =>
    intro x t J hx ht hJ
    obtain ⟨t, rfl⟩ : ∃ u, t = u + 1 := ⟨t - 1, by omega⟩
    show g_X7_records_64 F zKm RM 89 _ J (nI x) = _
    unfold g_X7_records_64
    rw [if_neg (show ¬ (780 : Int32) ≤ nI x from nI_ge (b := 780) (by omega) (by omega))]
    rw [hR, zbd_s, zbd_s, zd91, zbd_s, zrd_s (by rw [zKm91]; show x < 5751; omega) (by decide), zbd_s, zbd_s, hJ, show (780 : Int32) = nI 780 from rfl, nI_mul, nI_add, zwr_s (by rw [zKm91]; show 780 * c + x < 5751; omega) (by decide), zbd_s, show (1 : Int32) = nI 1 from rfl, nI_add]
    rw [ih (x + 1) t (zup J 90 (780 * c + x) (J 90 x)) (by omega) (by omega) (by rw [zup_ne _ _ _ (by decide)]; exact hJ)]
    refine congrArg some (zpg_eq (fun b hb q => ?_) (fun q => ?_))
    · rw [zpg_ne _ _ hb, zup_ne _ _ _ hb]
    · rw [zpg_91]
      simp only [zup_row]
      by_cases h1 : q = 780 * c + x
      · subst h1
        rw [if_neg (by omega), if_pos rfl, if_pos (by omega)]
        congr 1
        omega
      · by_cases h2 : 780 * c + x ≤ q ∧ q < 780 * c + 780
        · rw [if_pos (by omega), if_pos h2, if_neg (by omega)]
        · rw [if_neg (by omega), if_neg h2, if_neg h1]
/-- all blocks move down by one -/
theorem records13 (F : Nat) (hF : 1000 ≤ F) {RM : zR} (hR : RM 89 0 = some 90) : ∀ (d x t : Nat) (J : zI), x + d = 4680 → 780 ≤ x → d < t → J 89 1 = nI 6 →
    f_X7_records_13 F zKm RM 89 t J (nI x) = some (zpg (zup J 89 1 (nI 6)) (fun q => if x ≤ q ∧ q < 4680 then J 90 (q + 780) else if 4680 ≤ q ∧ q < 5460 then J 90 (q - 4680) else J 90 q)) := by
  intro d
  induction d with
  | zero =>
    intro x t J hx hx0 ht hJ
    obtain ⟨t, rfl⟩ : ∃ u, t = u + 1 := ⟨t - 1, by omega⟩
    show g_X7_records_13 F zKm RM 89 _ J (nI x) = _
    unfold g_X7_records_13 f_X7_records_52
    rw [if_pos (show (4680 : Int32) ≤ nI x from nI_le (a := 4680) (by omega) (by omega)), zbd_s, zbd_s, hJ, zup_self, show (1 : Int32) = nI 1 from rfl, nI_sub (by omega), nI_add]
    rw [show (0 : Int32) = nI 0 from rfl, records64 F hR 6 (by omega) (by omega) 780 0 F _ (by omega) (by omega) (by rw [zup_self])]
    refine congrArg some (zpg_eq (fun b hb q => ?_) (fun q => ?_))
    · rw [zpg_ne _ _ hb]
      by_cases h : b = 89
      · subst h
        by_cases h2 : q = 1
        · subst h2; rw [zup_self, zup_self]
        · rw [zup_self_ne _ _ _ h2, zup_self_ne _ _ _ h2, zup_self_ne _ _ _ h2]
      · rw [zup_ne _ _ _ h, zup_ne _ _ _ h, zup_ne _ _ _ h]
    · rw [zpg_91, zup_ne _ _ _ (by decide), zup_ne _ _ _ (by decide)]
      rw [if_neg (show ¬ (x ≤ q ∧ q < 4680) by omega)]
  | succ d ih =>
    intro x t J hx hx0 ht hJ
    obtain ⟨t, rfl⟩ : ∃ u, t = u + 1 := ⟨t - 1, by omega⟩
    show g_X7_records_13 F zKm RM 89 _ J (nI x) = _
    unfold g_X7_records_13
    rw [if_neg (show ¬ (4680 : Int32) ≤ nI x from nI_ge (b := 4680) (by omega) (by omega))]
    rw [hR, zbd_s, zbd_s, zd91, zbd_s, show (780 : Int32) = nI 780 from rfl, nI_add, zrd_s (by rw [zKm91]; show x + 780 < 5751; omega) (by decide), zbd_s, zbd_s, zwr_s (by rw [zKm91]; show x < 5751; omega) (by decide), zbd_s, show (1 : Int32) = nI 1 from rfl, nI_add]
    rw [ih (x + 1) t (zup J 90 x (J 90 (x + 780))) (by omega) (by omega) (by omega) (by rw [zup_ne _ _ _ (by decide)]; exact hJ)]
    refine congrArg some (zpg_eq (fun b hb q => ?_) (fun q => ?_))
    · rw [zpg_ne _ _ hb]
      by_cases h : b = 89
      · subst h
        by_cases h2 : q = 1
        · subst h2; rw [zup_self, zup_self]
        · rw [zup_self_ne _ _ _ h2, zup_self_ne _ _ _ h2, zup_ne _ _ _ (by decide)]
      · rw [zup_ne _ _ _ h, zup_ne _ _ _ h, zup_ne _ _ _ hb]
    · rw [zpg_91]
      simp only [zup_row]
      by_cases h1 : q = x
      · subst h1
        rw [if_neg (by omega), if_neg (by omega), if_pos rfl, if_pos (by omega)]
      · by_cases h2 : x ≤ q ∧ q < 4680
        · rw [if_pos (by omega), if_pos h2, if_neg (by omega)]
        · rw [if_neg (by omega), if_neg h2]
          by_cases h3 : 4680 ≤ q ∧ q < 5460
          · rw [if_pos h3, if_pos h3, if_neg (by omega)]
          · rw [if_neg h3, if_neg h3, if_neg h1]
/-- what records() makes of the page, with h states remembered -/
def zrec (h : Nat) (P : Nat → Int32) : Nat → Int32 := fun q =>
  if h < 6 then (if 780 * (h + 1) ≤ q ∧ q < 780 * (h + 1) + 780 then P (q - 780 * (h + 1)) else P q)
  else if 780 ≤ q ∧ q < 4680 then P (q + 780) else if 4680 ≤ q ∧ q < 5460 then P (q - 4680) else P q
theorem records_eq (F : Nat) (hF : 5000 ≤ F) {RM : zR} (hR : RM 89 0 = some 90) {J : zI} {h : Nat} (hh : h ≤ 6) (hJ : J 89 1 = nI h) : f_X7_records F zKm J RM 89 = some (zpg (zup J 89 1 (nI (if h < 6 then h + 1 else 6))) (zrec h (J 90))) := by
  unfold f_X7_records
  rw [hJ]
  by_cases h6 : h = 6
  · subst h6
    rw [if_pos (show nI 6 = 6 from rfl), show (780 : Int32) = nI 780 from rfl, records13 F (by omega) hR 3900 780 F J (by omega) (by omega) (by omega) hJ]
    rfl
  · have hlt : h < 6 := by omega
    rw [if_neg (fun e => h6 (nI_inj (by omega) (by omega) (e.trans (show (6 : Int32) = nI 6 from rfl))))]
    unfold f_X7_records_52
    rw [zbd_s, hJ, show (1 : Int32) = nI 1 from rfl, nI_add, show (0 : Int32) = nI 0 from rfl, records64 F hR (h + 1) (by omega) (by omega) 780 0 F _ (by omega) (by omega) (by rw [zup_self]), if_pos hlt]
    refine congrArg some (zpg_eq (fun b hb q => by rw [zpg_ne _ _ hb]) (fun q => ?_))
    rw [zpg_91, zup_ne _ _ _ (by decide)]
    unfold zrec
    rw [if_pos hlt, Nat.add_zero]
/-- undo: block h comes down to block 0 -/
theorem undo12 (F : Nat) {RM : zR} (hR : RM 89 0 = some 90) (c : Nat) (hc1 : 1 ≤ c) (hc : c ≤ 6) : ∀ (d x t : Nat) (J : zI), x + d = 780 → d < t → J 89 1 = nI c →
    f_X7_undo_12 F zKm RM 89 t J (nI x) = some (nI (c - 1), zpg (zup J 89 1 (nI (c - 1))) (fun q => if x ≤ q ∧ q < 780 then J 90 (780 * c + q) else J 90 q)) := by
  intro d
  induction d with
  | zero =>
    intro x t J hx ht hJ
    obtain ⟨t, rfl⟩ : ∃ u, t = u + 1 := ⟨t - 1, by omega⟩
    show g_X7_undo_12 F zKm RM 89 _ J (nI x) = _
    unfold g_X7_undo_12
    rw [if_pos (show (780 : Int32) ≤ nI x from nI_le (a := 780) (by omega) (by omega)), zbd_s, hJ, zup_self, show (1 : Int32) = nI 1 from rfl, nI_sub hc1]
    refine congrArg some (Prod.ext rfl (zpg_eq (fun b hb q => rfl) (fun q => ?_)))
    show zup J 89 1 (nI (c - 1)) 90 q = _
    rw [zup_ne _ _ _ (by decide), if_neg (by omega)]
  | succ d ih =>
    intro x t J hx ht hJ
    obtain ⟨t, rfl⟩ : ∃ u, t = u + 1 := ⟨t - 1, by omega⟩
    show g_X7_undo_12 F zKm RM 89 _ J (nI x) = _
    unfold g_X7_undo_12
    rw [if_neg (show ¬ (780 : Int32) ≤ nI x from nI_ge (b := 780) (by omega) (by omega))]
    rw [hR, zbd_s, zbd_s, zd91, zbd_s, hJ, show (780 : Int32) = nI 780 from rfl, nI_mul, nI_add, zrd_s (by rw [zKm91]; show 780 * c + x < 5751; omega) (by decide), zbd_s, zbd_s, zwr_s (by rw [zKm91]; show x < 5751; omega) (by decide), zbd_s, show (1 : Int32) = nI 1 from rfl, nI_add]
    rw [ih (x + 1) t (zup J 90 x (J 90 (780 * c + x))) (by omega) (by omega) (by rw [zup_ne _ _ _ (by decide)]; exact hJ)]
    refine congrArg some (Prod.ext rfl (zpg_eq (fun b hb q => ?_) (fun q => ?_)))
    · dsimp only
      rw [zpg_ne _ _ hb]
      by_cases h : b = 89
      · subst h
        by_cases h2 : q = 1
        · subst h2; rw [zup_self, zup_self]
        · rw [zup_self_ne _ _ _ h2, zup_self_ne _ _ _ h2, zup_ne _ _ _ (by decide)]
      · rw [zup_ne _ _ _ h, zup_ne _ _ _ h, zup_ne _ _ _ hb]
    · dsimp only
      rw [zpg_91]
      simp only [zup_row]
      by_cases h1 : q = x
      · subst h1
        rw [if_neg (by omega), if_pos rfl, if_pos (by omega)]
      · by_cases h2 : x ≤ q ∧ q < 780
        · rw [if_pos (by omega), if_pos h2, if_neg (by omega)]
        · rw [if_neg (by omega), if_neg h2, if_neg h1]
