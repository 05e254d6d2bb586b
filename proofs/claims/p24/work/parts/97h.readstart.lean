/-! put(): how the reading begins -/
section ZPH
variable {F : Nat} {K : zK} {R : zR} {RM : zR} {b n : Nat}
theorem X2_read39 (hK : ∀ a, a < 89 → K a = zKt a) (h8 : R 6 8 = some 14) (x2 : Int32) : ∀ (d x t : Nat) (I : zI), x + d = 10 → d < t → f_X2_read_39 F 6 t n K I R x2 (nI x) = f_X2_read_63 F 6 F n K (zrw I 14 x 10 (fun _ => (-1 : Int32))) R x2 0 := by
  have k6 : (K 6).1 = 12 := by rw [hK 6 (by decide)]; rfl
  have k14 : K 14 = (1, 10) := hK 14 (by decide)
  have z14 : zln K 14 = nI 10 := by unfold zln; rw [k14]; rfl
  intro d
  induction d with
  | zero =>
    intro x t I hx ht
    obtain ⟨t, rfl⟩ : ∃ u, t = u + 1 := ⟨t - 1, by omega⟩
    show g_X2_read_39 F 6 _ n K I R x2 (nI x) = _
    unfold g_X2_read_39
    rw [if_pos k6, h8, zbd_s, zdr_s (t := 1) (by rw [k14]), zbd_s, z14, if_pos (nI_le (by omega) (by omega)), zrw_end _ _ _ (by omega)]
  | succ d ih =>
    intro x t I hx ht
    obtain ⟨t, rfl⟩ : ∃ u, t = u + 1 := ⟨t - 1, by omega⟩
    show g_X2_read_39 F 6 (f_X2_read_39 F 6 t) n K I R x2 (nI x) = _
    unfold g_X2_read_39
    rw [if_pos k6, h8, zbd_s, zdr_s (t := 1) (by rw [k14]), zbd_s, z14, if_neg (nI_ge (by omega) (by omega)), zbd_s, zdr_s (t := 1) (by rw [k14]), zbd_s, zwr_s (by rw [k14]; show x < 10; omega) (by rw [k14]; decide), zbd_s, nI_1, ih (x + 1) t _ (by omega) (by omega), zrw_step I 14 (fun _ => (-1 : Int32)) (by omega)]
theorem X7_reads21 (hRM : zRM RM) : ∀ (d x t : Nat) (J : zI), x + d = 10 → d < t → f_X7_reads_21 F zKm RM 89 t J (nI x) = f_X7_reads_54 F zKm RM 89 F (zup (zup (zrw J 96 x 10 (fun _ => (0 : Int32))) 98 0 0) 89 14 1) 1 := by
  have r9 : RM 89 9 = some 96 := hRM 89 9 (by decide) (by decide) (by decide)
  have r11 : RM 89 11 = some 98 := hRM 89 11 (by decide) (by decide) (by decide)
  intro d
  induction d with
  | zero =>
    intro x t J hx ht
    obtain ⟨t, rfl⟩ : ∃ u, t = u + 1 := ⟨t - 1, by omega⟩
    show g_X7_reads_21 F zKm RM 89 _ J (nI x) = _
    unfold g_X7_reads_21
    have e1 : ∀ I : zI, zwrZ zKm I 98 (0 : Int32) (0 : Int32) = some (zup I 98 0 (0 : Int32)) := fun I => zwrZ_s (j := 0) (by decide) (by decide) (Or.inl rfl)
    rw [if_pos (show (10 : Int32) ≤ nI x from nI_le (a := 10) (by omega) (by omega)), r11, zbd_s, zdr_s (t := 2) rfl, zbd_s, e1, zbd_s, zbd_s, zrw_end _ _ _ (by omega)]
  | succ d ih =>
    intro x t J hx ht
    obtain ⟨t, rfl⟩ : ∃ u, t = u + 1 := ⟨t - 1, by omega⟩
    show g_X7_reads_21 F zKm RM 89 (f_X7_reads_21 F zKm RM 89 t) J (nI x) = _
    unfold g_X7_reads_21
    rw [if_neg (show ¬ ((10 : Int32) ≤ nI x) from nI_ge (a := x) (b := 10) (by omega) (by omega)), r9, zbd_s, zdr_s (t := 1) rfl, zbd_s, zwr_s (by show x < 10; omega) (by decide), zbd_s, nI_1, ih (x + 1) t _ (by omega) (by omega), zrw_step J 96 (fun _ => (0 : Int32)) (by omega)]
/-- the whole of reading, from both sides' starts -/
theorem read_both {I J : zI} (hF : 5000 ≤ F) (hK : ∀ a, a < 89 → K a = zKt a) (hn : 92 ≤ n) (hRM : zRM RM) (hR : R 6 6 = some 12 ∧ R 6 7 = some 13 ∧ R 6 8 = some 14) (hb : b ≤ 80) (htx : ∀ i, i < b → I 1 i = J 91 i) (h3 : J 89 3 = nI b) : ∃ (I0 J0 : zI) (R0 : zR), (∀ x, x ≠ 6 → x ≠ 14 → x < n ∨ n + 4 ≤ x → I0 x = I x) ∧ (∀ x, x ≠ 6 → x ≠ n → R0 x = R x) ∧ (∀ k, k ≠ 0 → k ≠ 4 → R0 6 k = R 6 k) ∧ aFm J J0 ∧ J0 89 4 = J 89 4 ∧ aOut (zTnK K n) R0 n (n + 4) I0 J0 (f_X2_read F n K I R 6 (some 1) (nI b)) (f_X7_reads F zKm J RM 89) := by
  have r0 : RM 89 0 = some 90 := hRM 89 0 (by decide) (by decide) (by decide)
  obtain ⟨tK1, tK2, tK3, tK4, tK5, tK6⟩ := zTn_K (K := K) (n := n)
  obtain ⟨Ia, hIa⟩ : ∃ x : zI, x = zup (zup (zup (zup I 6 1 (nI b)) 6 2 0) 6 3 (-9)) 6 5 0 := ⟨_, rfl⟩
  obtain ⟨tI1, tI2, tI3, tI4⟩ := zTn_I (I := Ia) (n := n)
  obtain ⟨tR1, tR2, tR3, tR4⟩ := zTn_R (R := zup R 6 0 (some 1)) (n := n)
  have hK2 : ∀ a, a < 89 → zTnK K n a = zKt a := fun a ha => by rw [tK5 a (by omega)]; exact hK a ha
  obtain ⟨R0, hR0⟩ : ∃ x : zR, x = zup (zTnR (zup R 6 0 (some 1)) n) 6 4 (some n) := ⟨_, rfl⟩
  obtain ⟨I0, hI0⟩ : ∃ x : zI, x = zrw (zTnI Ia n) 14 0 10 (fun _ => (-1 : Int32)) := ⟨_, rfl⟩
  have k6 : (K 6).1 = 12 := by rw [hK 6 (by decide)]; rfl
  have k6' : (zTnK K n 6).1 = 12 := by rw [hK2 6 (by decide)]; rfl
  have e6 : ∀ k, k ≠ 0 → k ≠ 4 → R0 6 k = R 6 k := fun k h1 h2 => by rw [hR0, zup_self_ne _ _ _ h2, tR4 6 (by omega), zup_self_ne _ _ _ h1]
  have eC : f_X2_read F n K I R 6 (some 1) (nI b) = f_X2_read_63 F 6 F (n + 4) (zTnK K n) I0 R0 (nI b) (nI 0) := by
    have e39 := X2_read39 (F := F) (n := n + 4) (R := R0) hK2 (by rw [e6 8 (by decide) (by decide)]; exact hR.2.2) (nI b) 10 0 F (zTnI Ia n) (by omega) (by omega)
    rw [← hI0] at e39
    unfold f_X2_read
    rw [if_pos k6, zbd_s, zbd_s, zbd_s, zbd_s, zbd_s, ← hIa, zbd4_s, X5_new, zbd4_s, if_pos k6', zbd_s, ← hR0]
    exact e39
  obtain ⟨J0, hJ0⟩ : ∃ x : zI, x = zup (zup (zrw (zup (zup (zup J 90 5460 0) 89 12 0) 89 13 0) 96 0 10 (fun _ => (0 : Int32))) 98 0 0) 89 14 1 := ⟨_, rfl⟩
  have eJ : f_X7_reads F zKm J RM 89 = f_X7_reads_54 F zKm RM 89 F J0 1 := by
    have e21 := X7_reads21 (F := F) hRM 10 0 F (zup (zup (zup J 90 5460 0) 89 12 0) 89 13 0) (by omega) (by omega)
    rw [← hJ0] at e21
    unfold f_X7_reads
    rw [r0, zbd_s, zd91, zbd_s, show (5460 : Int32) = nI 5460 from rfl, zwr_s (by rw [zKm91]; decide) (by decide), zbd_s, zbd_s, zbd_s]
    exact e21
  have u90 : ∀ y, y ≠ 12 → y ≠ 13 → y ≠ 14 → J0 89 y = J 89 y := fun y y1 y2 y3 => by
    rw [hJ0, zup_self_ne _ _ _ y3, zup_ne _ _ _ (by decide), zrw_ne _ _ _ _ (by decide), zup_self_ne _ _ _ y2, zup_self_ne _ _ _ y1, zup_ne _ _ _ (by decide)]
  have uJ : ∀ x, x ≠ 89 → x ≠ 90 → x ≠ 96 → x ≠ 98 → J0 x = J x := fun x x1 x2 x3 x4 => by
    rw [hJ0, zup_ne _ _ _ x1, zup_ne _ _ _ x4, zrw_ne _ _ _ _ x3, zup_ne _ _ _ x1, zup_ne _ _ _ x1, zup_ne _ _ _ x2]
  have u91 : J0 90 = zup J 90 5460 0 90 := by rw [hJ0, zup_ne _ _ _ (by decide), zup_ne _ _ _ (by decide), zrw_ne _ _ _ _ (by decide), zup_ne _ _ _ (by decide), zup_ne _ _ _ (by decide)]
  have fI : ∀ x, x ≠ 6 → x ≠ 14 → x < n ∨ n + 4 ≤ x → I0 x = I x := fun x x1 x2 x3 => by
    rw [hI0, zrw_ne _ _ _ _ x2]
    rw [show zTnI Ia n x = Ia x by rcases x3 with h | h; exact tI3 x h; exact tI4 x h, hIa, zup_ne _ _ _ x1, zup_ne _ _ _ x1, zup_ne _ _ _ x1, zup_ne _ _ _ x1]
  have i6 : ∀ k, I0 6 k = Ia 6 k := fun k => by rw [hI0, zrw_ne _ _ _ _ (by decide), tI3 6 (by omega)]
  refine ⟨I0, J0, R0, fI, fun x x1 x2 => by rw [hR0, zup_ne _ _ _ x1, tR4 x x2, zup_ne _ _ _ x1], e6, ⟨fun x x1 x2 x3 _ x5 => uJ x x1 x2 x3 x5, fun y hy => by rw [u91, zup_self_ne _ _ _ (by omega)], fun y hy => u90 y (by omega) (by omega) (by omega)⟩, u90 4 (by decide) (by decide) (by decide), ?_⟩
  rw [eC, eJ]
  refine read_loop (F := F) (by omega) hK2 hRM b 0 0 F F 0 0 I0 J0 (fun _ => 0) (fun _ => 0) (fun _ => 0) (fun _ => 0) (fun _ => 0) (fun _ => 0) (by omega) (Nat.le_refl _) ?_ ?_ ?_ aInv_0 ⟨fun i h => by omega, fun i h => by omega, fun k h => by omega, fun i h => by omega⟩ (Or.inl rfl) ?_ ?_ ?_ (by omega) (by omega)
  · refine ⟨⟨tK1, tK2, tK3, tK4, ?_, ?_, ?_, ?_, fun i hi => absurd hi (Nat.not_lt_zero _)⟩, hn, ⟨?_, ?_, ?_, ?_, ?_⟩, ⟨?_, ?_, ?_⟩, fun k h => absurd h (Nat.not_lt_zero _), fun k h => absurd h (Nat.not_lt_zero _), fun h hh => ?_⟩
    · rw [hR0, zup_ne _ _ _ (by omega)]; exact tR1
    · rw [hR0, zup_ne _ _ _ (by omega)]; exact tR2
    · rw [hR0, zup_ne _ _ _ (by omega)]; exact tR3
    · rw [hI0, zrw_ne _ _ _ _ (by omega)]; exact tI1
    · rw [hR0, zup_self_ne _ _ _ (by decide), tR4 6 (by omega), zup_self]
    · rw [hR0, zup_self]
    · rw [e6 6 (by decide) (by decide)]; exact hR.1
    · rw [e6 7 (by decide) (by decide)]; exact hR.2.1
    · rw [e6 8 (by decide) (by decide)]; exact hR.2.2
    · rw [i6, hIa, zup_self_ne _ _ _ (by decide), zup_self_ne _ _ _ (by decide), zup_self_ne _ _ _ (by decide), zup_self]
    · rw [i6, hIa, zup_self_ne _ _ _ (by decide), zup_self_ne _ _ _ (by decide), zup_self]; rfl
    · rw [i6, hIa, zup_self]; rfl
    · rw [hI0, zrw_in _ _ _ (Nat.zero_le _) hh]; rfl
  · refine ⟨⟨?_, ?_, ?_⟩, ⟨?_, fun i hi => absurd hi (Nat.not_lt_zero _)⟩, fun k h => absurd h (Nat.not_lt_zero _), ?_, fun k h => absurd h (Nat.not_lt_zero _), fun h hh => ?_⟩
    · rw [u90 3 (by decide) (by decide) (by decide)]; exact h3
    · rw [hJ0, zup_self_ne _ _ _ (by decide), zup_ne _ _ _ (by decide), zrw_ne _ _ _ _ (by decide), zup_self_ne _ _ _ (by decide), zup_self]; rfl
    · rw [hJ0, zup_self_ne _ _ _ (by decide), zup_ne _ _ _ (by decide), zrw_ne _ _ _ _ (by decide), zup_self]; rfl
    · rw [u91, zup_self]; rfl
    · rw [hJ0, zup_ne _ _ _ (by decide), zup_self]
    · rw [hJ0, zup_ne _ _ _ (by decide), zup_ne _ _ _ (by decide), zrw_in _ _ _ (Nat.zero_le _) hh]; rfl
  · exact ⟨by omega, by omega, hb, by omega, fun i hi => absurd hi (Nat.not_lt_zero _), fun k h => absurd h (Nat.not_lt_zero _), fun k h => absurd h (Nat.not_lt_zero _), fun h hh => Nat.zero_le _⟩
  · exact fun i hi => by rw [fI 1 (by decide) (by decide) (by omega), uJ 91 (by decide) (by decide) (by decide) (by decide)]; exact htx i hi
  · rw [hJ0, zup_self]
  · rw [hI0, zrw_ne _ _ _ _ (by omega)]; exact tI2
end ZPH
