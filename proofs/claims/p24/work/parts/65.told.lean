/-! STEP told -/
def rHl (P : Nat → Option Nat) : Nat → Int32
  | 0 => 0
  | j + 1 => match P j with
    | none => rHl P j
    | some _ => rHl P j ||| ((1 : Int32) <<< (nI j &&& 31))
def rCt (P : Nat → Option Nat) : Nat → Int32
  | 0 => 0
  | j + 1 => match P j with
    | none => rCt P j
    | some _ => rCt P j + 1
def rNs (J : zI) : Nat → Int32
  | 0 => 0
  | j + 1 => rNs J j + J 90 (97 * j)
theorem rbit : ∀ j, j < 8 → ∀ m, m < 2 ^ j → nI m ||| ((1 : Int32) <<< (nI j &&& 31)) = nI (m + 2 ^ j) ∧ m + 2 ^ j < 2 ^ (j + 1) ∧ lpc (nI (m + 2 ^ j)) = lpc (nI m) + 1 := by decide +kernel
theorem rHl_ct (P : Nat → Option Nat) : ∀ j, j ≤ 8 → ∃ m, m < 2 ^ j ∧ rHl P j = nI m ∧ lpc (nI m) = rCt P j := by
  intro j
  induction j with
  | zero => intro _; exact ⟨0, by decide, rfl, show lpc (nI 0) = 0 by decide +kernel⟩
  | succ j ih =>
    intro hj
    obtain ⟨m, h1, h2, h3⟩ := ih (by omega)
    cases hP : P j with
    | none =>
      refine ⟨m, Nat.lt_of_lt_of_le h1 (Nat.pow_le_pow_right (by decide) (by omega)), ?_, ?_⟩
      · simp only [rHl, hP]; exact h2
      · simp only [rCt, hP]; exact h3
    | some a =>
      obtain ⟨e1, e2, e3⟩ := rbit j (by omega) m h1
      refine ⟨_, e2, ?_, ?_⟩
      · simp only [rHl, hP]; rw [h2, e1]
      · simp only [rCt, hP]; rw [e3, h3]
section ZTD
variable {F : Nat} {K : zK} {I : zI} {R : zR} {J : zI} {RM : zR}
theorem held4 (hcf : zCf K R) : ∀ (d j t : Nat), j + d = 8 → d < t → f_X4_registersHeld_4 F K I R 2 t (rHl (R 3) j) (nI j) = some (rHl (R 3) 8) := by
  obtain ⟨k0, k1, k2, r0, r1⟩ := zSt_cell hcf (a := 2) (Or.inl rfl)
  have e8 : zln K 3 = nI 8 := by simp only [zln]; rw [show K 3 = K (2 + 1) from rfl, k1]; rfl
  intro d
  induction d with
  | zero =>
    intro j t hj ht
    obtain ⟨t, rfl⟩ : ∃ u, t = u + 1 := ⟨t - 1, by omega⟩
    show g_X4_registersHeld_4 F K I R 2 _ (rHl (R 3) j) (nI j) = _
    unfold g_X4_registersHeld_4
    rw [r0, zbd_s, zdr_s (t := 4) (by rw [k1]), zbd_s, e8, show j = 8 by omega, if_pos (Int32.le_refl _)]
  | succ d ih =>
    intro j t hj ht
    obtain ⟨t, rfl⟩ : ∃ u, t = u + 1 := ⟨t - 1, by omega⟩
    have e := ih (j + 1) t (by omega) (by omega)
    show g_X4_registersHeld_4 F K I R 2 _ (rHl (R 3) j) (nI j) = _
    unfold g_X4_registersHeld_4 f_X4_registersHeld_28
    rw [r0, zbd_s, zdr_s (t := 4) (by rw [k1]), zbd_s, e8, if_neg (nI_ge (by omega) (by omega)), zbd_s, zdr_s (t := 4) (by rw [k1]), zbd_s, zrdR_s (by rw [k1]; show j < 8; omega) (by rw [k1]; decide), zbd_s, nI_1]
    simp only [rHl] at e
    cases hP : R (2 + 1) j with
    | none =>
      rw [show R 3 j = none from hP] at e
      rw [zcs_n]
      exact e
    | some b =>
      rw [show R 3 j = some b from hP] at e
      rw [zcs_s, zbd_s]
      exact e
theorem nodes4 (hcf : zCf K R) (hat : ∀ r, r < 8 → (R 3 r = none ∧ J 90 (97 * r) = 0) ∨ ∃ t, R 3 r = some t ∧ (K t).1 = 15 ∧ I t 3 = J 90 (97 * r)) : ∀ (d j t : Nat), j + d = 8 → d < t → f_X4_nodes_4 F K I R 2 t (rNs J j) (nI j) = some (rNs J 8) := by
  obtain ⟨k0, k1, k2, r0, r1⟩ := zSt_cell hcf (a := 2) (Or.inl rfl)
  have e8 : zln K 3 = nI 8 := by simp only [zln]; rw [show K 3 = K (2 + 1) from rfl, k1]; rfl
  intro d
  induction d with
  | zero =>
    intro j t hj ht
    obtain ⟨t, rfl⟩ : ∃ u, t = u + 1 := ⟨t - 1, by omega⟩
    show g_X4_nodes_4 F K I R 2 _ (rNs J j) (nI j) = _
    unfold g_X4_nodes_4
    rw [r0, zbd_s, zdr_s (t := 4) (by rw [k1]), zbd_s, e8, show j = 8 by omega, if_pos (Int32.le_refl _)]
  | succ d ih =>
    intro j t hj ht
    obtain ⟨t, rfl⟩ : ∃ u, t = u + 1 := ⟨t - 1, by omega⟩
    have e := ih (j + 1) t (by omega) (by omega)
    show g_X4_nodes_4 F K I R 2 _ (rNs J j) (nI j) = _
    unfold g_X4_nodes_4 f_X4_nodes_31
    rw [r0, zbd_s, zdr_s (t := 4) (by rw [k1]), zbd_s, e8, if_neg (nI_ge (by omega) (by omega)), zbd_s, zdr_s (t := 4) (by rw [k1]), zbd_s, zrdR_s (by rw [k1]; show j < 8; omega) (by rw [k1]; decide), zbd_s, nI_1]
    simp only [rNs] at e
    rcases hat j (by omega) with ⟨hx, hz⟩ | ⟨b, hx, hk, hi⟩
    · rw [hz, Int32.add_zero] at e
      rw [show R (2 + 1) j = none from hx, zcs_n]
      exact e
    · rw [show R (2 + 1) j = some b from hx, zcs_s, if_pos hk, hi, zbd_s]
      exact e
theorem sumOf0 (hR0 : RM 89 0 = some 90) (P : Nat → Option Nat) (hat : ∀ r, r < 8 → (P r = none ∧ J 90 (97 * r) = 0) ∨ ∃ t, P r = some t ∧ ¬ J 90 (97 * r) = 0) : ∀ (d j t : Nat), j + d = 8 → d < t → f_X7_sumOf_4 F zKm J RM 89 t 0 (rCt P j) (nI j) = some (rCt P 8) := by
  intro d
  induction d with
  | zero =>
    intro j t hj ht
    obtain ⟨t, rfl⟩ : ∃ u, t = u + 1 := ⟨t - 1, by omega⟩
    show g_X7_sumOf_4 F zKm J RM 89 _ 0 (rCt P j) (nI j) = _
    unfold g_X7_sumOf_4
    rw [show j = 8 by omega, if_pos (by decide)]
  | succ d ih =>
    intro j t hj ht
    obtain ⟨t, rfl⟩ : ∃ u, t = u + 1 := ⟨t - 1, by omega⟩
    have e := ih (j + 1) t (by omega) (by omega)
    show g_X7_sumOf_4 F zKm J RM 89 _ 0 (rCt P j) (nI j) = _
    unfold g_X7_sumOf_4 f_X7_sumOf_40
    rw [if_neg (show ¬ ((8 : Int32) ≤ nI j) from nI_ge (a := j) (b := 8) (by omega) (by omega)), if_pos rfl, X7_isEmpty hR0 (by omega), nI_1]
    simp only [rCt] at e
    rcases hat j (by omega) with ⟨hx, hz⟩ | ⟨b, hx, hz⟩
    · rw [hx] at e
      rw [if_pos hz, zbd_s, if_neg (by decide), zbd_s, Int32.add_zero]
      exact e
    · rw [hx] at e
      rw [if_neg hz, zbd_s, if_pos rfl, zbd_s]
      exact e
theorem sumOf1 (hR0 : RM 89 0 = some 90) : ∀ (d j t : Nat), j + d = 8 → d < t → f_X7_sumOf_4 F zKm J RM 89 t 1 (rNs J j) (nI j) = some (rNs J 8) := by
  intro d
  induction d with
  | zero =>
    intro j t hj ht
    obtain ⟨t, rfl⟩ : ∃ u, t = u + 1 := ⟨t - 1, by omega⟩
    show g_X7_sumOf_4 F zKm J RM 89 _ 1 (rNs J j) (nI j) = _
    unfold g_X7_sumOf_4
    rw [show j = 8 by omega, if_pos (by decide)]
  | succ d ih =>
    intro j t hj ht
    obtain ⟨t, rfl⟩ : ∃ u, t = u + 1 := ⟨t - 1, by omega⟩
    have e := ih (j + 1) t (by omega) (by omega)
    show g_X7_sumOf_4 F zKm J RM 89 _ 1 (rNs J j) (nI j) = _
    unfold g_X7_sumOf_4 f_X7_sumOf_40
    rw [if_neg (show ¬ ((8 : Int32) ≤ nI j) from nI_ge (a := j) (b := 8) (by omega) (by omega)), if_neg (by decide), hR0, zbd_s, zd91, zbd_s, show (97 : Int32) = nI 97 from rfl, nI_mul, zrd_s (by rw [zKm91]; show 97 * j < 5751; omega) (by decide), zbd_s, zbd_s, nI_1]
    exact e
end ZTD
theorem step_told (F : Nat) (hF : 5000 ≤ F) : zStep_told F 89 zSim := by
  intro k K I R n KM J RM x1 hS
  have hS0 : zSim k K I R n KM J RM := zSim_scr hS (fun _ _ => rfl)
  have hcf := zSim_cf hS
  obtain ⟨k0, k5, r3, r4⟩ := zK_fix hcf
  have hat := fun r (hr : r < 8) => zSim_at hS hr
  obtain ⟨⟨hn, hK, hK2, hK3, hR, hKM, hRM⟩, ⟨b, hb, hb1, hb2, htx⟩, hfk, hst, g, hg, hg1, hg2, -⟩ := hS
  have hR0 : RM 89 0 = some 90 := hRM 89 0 (by decide) (by decide) (by decide)
  by_cases h1 : 0 ≤ x1 ∧ x1 ≤ 7
  · obtain ⟨r, hr, rfl⟩ := zreg h1
    by_cases hr4 : r < 4
    · refine ⟨I 4 r, ?_, ?_, hS0⟩
      · unfold f_X6_told
        rw [zo_0 h1, zbd_s, if_pos rfl, if_neg (show ¬ ((4 : Int32) ≤ nI r) from nI_ge (a := r) (b := 4) hr4 (by omega)), r3, zbd_s, zdr_s (t := 14) (by rw [hK 2 (by decide)]; rfl), zbd_s, X4_setting hcf (Or.inl rfl) hr4, zbd_s]
      · have e : f_X7_told_48 F KM J RM 89 (nI r) = some (I 4 r) := by
          have h5 := hst.2.1 r hr4
          rw [Nat.zero_add] at h5
          unfold f_X7_told_48
          rw [hKM, hR0, zbd_s, zd91, zbd_s, show (776 : Int32) = nI 776 from rfl, nI_add, zrd_s (by rw [zKm91]; show 776 + r < 5751; omega) (by decide), zbd_s]
          exact congrArg some h5.symm
        unfold f_X7_told
        obtain rfl | rfl | rfl | rfl : r = 0 ∨ r = 1 ∨ r = 2 ∨ r = 3 := by omega
        · rw [if_pos (by decide)]; exact e
        · rw [if_neg (by decide), if_pos (by decide)]; exact e
        · rw [if_neg (by decide), if_neg (by decide), if_pos (by decide)]; exact e
        · rw [if_neg (by decide), if_neg (by decide), if_neg (by decide), if_pos (by decide)]; exact e
    · have h4 : (4 : Int32) ≤ nI r := nI_le (a := 4) (by omega) (by omega)
      obtain rfl | rfl | rfl | rfl : r = 4 ∨ r = 5 ∨ r = 6 ∨ r = 7 := by omega
      · obtain ⟨m, m1, m2, m3⟩ := rHl_ct (R 3) 8 (Nat.le_refl _)
        have e1 : f_X4_registersHeld F K I R 2 = some (rHl (R 3) 8) := held4 hcf 8 0 F (by omega) (by omega)
        have e2 : f_X7_sumOf F zKm J RM 89 0 = some (rCt (R 3) 8) := sumOf0 hR0 (R 3) (fun r hr => by
          rcases hat r hr with ⟨hx, hz⟩ | ⟨t, T, hx, hz, -⟩
          · exact Or.inl ⟨hx, hz⟩
          · exact Or.inr ⟨t, hx, hz⟩) 8 0 F (by omega) (by omega)
        refine ⟨rCt (R 3) 8, ?_, ?_, hS0⟩
        · unfold f_X6_told
          rw [zo_0 h1, zbd_s, if_pos rfl, if_pos h4, if_pos (by decide), r3, zbd_s, zdr_s (t := 14) (by rw [hK 2 (by decide)]; rfl), zbd_s, e1, zbd_s, J6_bit, zbd_s, m2, m3]
        · unfold f_X7_told
          rw [if_neg (by decide), if_neg (by decide), if_neg (by decide), if_neg (by decide), if_pos (by decide), hKM, e2, zbd_s]
      · have e1 : f_X4_nodes F K I R 2 = some (rNs J 8) := nodes4 hcf (fun r hr => by
          rcases hat r hr with ⟨hx, hz⟩ | ⟨t, T, hx, hz, -, -, -, hTc, hTm⟩
          · exact Or.inl ⟨hx, hz⟩
          · exact Or.inr ⟨t, hx, by rw [hTc.1], by rw [hTc.2.2.2.2.2.2.2.1, hTm.1]⟩) 8 0 F (by omega) (by omega)
        have e2 : f_X7_sumOf F zKm J RM 89 1 = some (rNs J 8) := sumOf1 hR0 8 0 F (by omega) (by omega)
        refine ⟨rNs J 8, ?_, ?_, hS0⟩
        · unfold f_X6_told
          rw [zo_0 h1, zbd_s, if_pos rfl, if_pos h4, if_neg (by decide), if_pos (by decide), r3, zbd_s, zdr_s (t := 14) (by rw [hK 2 (by decide)]; rfl), zbd_s, e1, zbd_s]
        · unfold f_X7_told
          rw [if_neg (by decide), if_neg (by decide), if_neg (by decide), if_neg (by decide), if_neg (by decide), if_pos (by decide), hKM, e2, zbd_s]
      · refine ⟨nI b, ?_, ?_, hS0⟩
        · unfold f_X6_told
          rw [zo_0 h1, zbd_s, if_pos rfl, if_pos h4, if_neg (by decide), if_neg (by decide), if_pos (by decide), hb1]
        · unfold f_X7_told
          rw [if_neg (by decide), if_neg (by decide), if_neg (by decide), if_neg (by decide), if_neg (by decide), if_neg (by decide), if_pos (by decide), hb2]
      · refine ⟨nI g, ?_, ?_, hS0⟩
        · unfold f_X6_told
          rw [zo_0 h1, zbd_s, if_pos rfl, if_pos h4, if_neg (by decide), if_neg (by decide), if_neg (by decide), hg1]
        · unfold f_X7_told
          rw [if_neg (by decide), if_neg (by decide), if_neg (by decide), if_neg (by decide), if_neg (by decide), if_neg (by decide), if_neg (by decide), if_pos (by decide), hg2]
  · have hne : ∀ c : Int32, (0 ≤ c ∧ c ≤ 7) → ¬ x1 = c := fun c hc e => h1 (e ▸ hc)
    refine ⟨-1, ?_, ?_, hS0⟩
    · unfold f_X6_told
      rw [zo_1 h1, zbd_s, if_neg (by decide)]
    · unfold f_X7_told
      rw [if_neg (hne 0 (by decide)), if_neg (hne 1 (by decide)), if_neg (hne 2 (by decide)), if_neg (hne 3 (by decide)), if_neg (hne 4 (by decide)), if_neg (hne 5 (by decide)), if_neg (hne 6 (by decide)), if_neg (hne 7 (by decide))]
