/-! STEPS: empty, set, undo -/
theorem zreg {x : Int32} (h : 0 ≤ x ∧ x ≤ 7) : ∃ r, r < 8 ∧ x = nI r := by
  obtain ⟨j, hj, hx⟩ := nI_of2 (n := 7) (M := 7) (by decide) (Int32.not_lt.mpr h.1) h.2
  exact ⟨j, by omega, hx⟩
theorem nI_r7 {r : Nat} (h : r < 8) : (0 : Int32) ≤ nI r ∧ nI r ≤ 7 := ⟨nI_pos' (by omega), nI_le (b := 7) (by omega) (by omega)⟩
theorem X6_reg {F : Nat} {K : zK} {I : zI} {R : zR} {r : Nat} (h : r < 8) : f_X6_noRegister F K I R (nI r) = some 0 := by
  unfold f_X6_noRegister
  rw [zo_0 (nI_r7 h), zbd_s, if_pos (Or.inl rfl)]
theorem X6_noreg {F : Nat} {K : zK} {I : zI} {R : zR} {x : Int32} (h : ¬ (0 ≤ x ∧ x ≤ 7)) : f_X6_noRegister F K I R x = some 1 := by
  unfold f_X6_noRegister
  rw [zo_1 h, zbd_s, if_pos (Or.inr rfl)]
theorem X7_reg {F : Nat} {K : zK} {I : zI} {R : zR} {r : Nat} (h : r < 8) : f_X7_isRegister F K I R (nI r) = some 1 := by
  unfold f_X7_isRegister
  rw [zi_1 (nI_r7 h), zbd_s, if_pos (Or.inr rfl)]
theorem X7_noreg {F : Nat} {K : zK} {I : zI} {R : zR} {x : Int32} (h : ¬ (0 ≤ x ∧ x ≤ 7)) : f_X7_isRegister F K I R x = some 0 := by
  unfold f_X7_isRegister
  rw [zi_0 h, zbd_s, if_pos (Or.inl rfl)]
theorem zRg_none {K : zK} {I : zI} {R : zR} {n : Nat} {P : Nat → Int32} {o : Nat} {x : Option Nat} (h : zRg K I R n x P o) : x = none ↔ P o = 0 := by
  cases x with
  | none => exact ⟨fun _ => h, fun _ => rfl⟩
  | some t =>
    obtain ⟨-, -, T, hT, -, hm⟩ := h
    refine ⟨fun e => (by cases e), fun e => ?_⟩
    rw [hm.1] at e
    have h1 : 1 ≤ tn T := hT.1.1
    have h2 : tn T ≤ 32 := hT.1.2.1
    exact absurd e (nI_ne0 (by omega) (by omega))
theorem X7_isEmpty {F : Nat} {J : zI} {RM : zR} (hR : RM 89 0 = some 90) {r : Nat} (hr : r < 8) : f_X7_isEmpty F zKm J RM 89 (nI r) = some (if J 90 (97 * r) = 0 then 1 else 0) := by
  unfold f_X7_isEmpty
  rw [hR, zbd_s, zd91, zbd_s, show (97 : Int32) = nI 97 from rfl, nI_mul, zrd_s (by rw [zKm91]; show 97 * r < 5751; omega) (by decide), zbd_s]
  by_cases h : J 90 (97 * r) = 0
  · rw [if_pos h, if_pos h]
  · rw [if_neg h, if_neg h]
/-- a register of both sides is written -/
theorem zSim_reg {k k' : Nat} {K : zK} {I : zI} {R : zR} {n : Nat} {KM : zK} {J J' : zI} {RM : zR} (hS : zSim k K I R n KM J RM) {r : Nat} (hr : r < 8) (x : Option Nat) (hP : ∀ q, q < 5460 → (q < 97 * r ∨ 97 * r + 97 ≤ q) → J' 90 q = J 90 q) (h90 : ∀ q, q = 1 ∨ q = 3 ∨ q = 4 → J' 89 q = J 89 q) (h92 : J' 91 = J 91) (hx : zRg K I R n x (J' 90) (97 * r)) : zSim k' K I (zup R 3 r x) n KM J' RM := by
  obtain ⟨⟨hn, hK, hK2, hK3, hR, hKM, hRM⟩, ⟨b, hb, hb1, hb2, htx⟩, hfk, hst, g, hg, hg1, hg2, hpast, hinj⟩ := hS
  have hkeep : ∀ c, 92 ≤ c → c < n → K c = K c ∧ I c = I c ∧ zup R 3 r x c = R c := fun c h1 h2 => ⟨rfl, rfl, zup_ne _ _ _ (by omega)⟩
  refine ⟨⟨hn, hK, hK2, hK3, fun a j hf => by rw [zup_ne _ _ _ (by unfold zFin at hf; omega)]; exact hR a j hf, hKM, hRM⟩, ⟨b, hb, hb1, by rw [h90 3 (by omega)]; exact hb2, fun i hi => by rw [h92]; exact htx i hi⟩, by rw [h90 4 (by omega)]; exact hfk, ?_, g, hg, hg1, by rw [h90 1 (by omega)]; exact hg2, fun j hj => ?_, fun i j hi hj hij => ?_⟩
  · obtain ⟨h1, h2, h3, h4⟩ := hst
    have e : ∀ j, j < 4 → J' 90 (0 + 776 + j) = J 90 (0 + 776 + j) := fun j hj => hP _ (by omega) (by omega)
    refine ⟨fun r' hr' => ?_, fun j hj => by rw [e j hj]; exact h2 j hj, fun j hj => by rw [e j (by omega)]; exact h3 j hj, fun j hj => by rw [e j hj]; exact h4 j hj⟩
    show zRg K I (zup R 3 r x) n (zup R 3 r x 3 r') (J' 90) (0 + 97 * r')
    rw [Nat.zero_add]
    by_cases hrr : r' = r
    · subst hrr
      rw [zup_self]
      exact zRg_keep hx (Nat.le_refl _) hkeep (fun _ _ => rfl)
    · rw [zup_self_ne _ _ _ hrr]
      have h5 := h1 r' hr'
      rw [Nat.zero_add] at h5
      exact zRg_keep h5 (Nat.le_refl _) hkeep (fun q hq => hP _ (by omega) (by omega))
  · obtain ⟨a, ha, hza, hsta⟩ := hpast j hj
    refine ⟨a, by rw [zup_ne _ _ _ (by decide)]; exact ha, hza, fun hlt => ?_⟩
    refine zSt_keep (hsta hlt) (Nat.le_refl _) hkeep (fun r' hr' => by rw [zup_ne _ _ _ (by unfold zHa at hza; omega)]) (fun _ _ => rfl) (fun q hq => hP _ (by omega) (by omega))
  · rw [zup_ne _ _ _ (by decide)] at hij
    exact hinj i j hi hj hij
/-- a setting of both sides is written -/
theorem zSim_set {k k' : Nat} {K : zK} {I : zI} {R : zR} {n : Nat} {KM : zK} {J : zI} {RM : zR} (hS : zSim k K I R n KM J RM) {w : Nat} (hw : w < 4) (v : Int32) (hv : 0 ≤ v ∧ v ≤ 8191) (hv2 : w < 2 → v = 0 ∨ v = 1) : zSim k' K (zup I 4 w v) R n KM (zup J 90 (776 + w) v) RM := by
  obtain ⟨⟨hn, hK, hK2, hK3, hR, hKM, hRM⟩, ⟨b, hb, hb1, hb2, htx⟩, hfk, hst, g, hg, hg1, hg2, hpast, hinj⟩ := hS
  have hkeep : ∀ c, 92 ≤ c → c < n → K c = K c ∧ zup I 4 w v c = I c ∧ R c = R c := fun c h1 h2 => ⟨rfl, zup_ne _ _ _ (by omega), rfl⟩
  refine ⟨⟨hn, hK, hK2, hK3, hR, hKM, hRM⟩, ⟨b, hb, by rw [zup_ne _ _ _ (by decide)]; exact hb1, by rw [zup_ne _ _ _ (by decide)]; exact hb2, fun i hi => by rw [zup_ne _ _ _ (by decide), zup_ne _ _ _ (by decide)]; exact htx i hi⟩, by rw [zup_ne _ _ _ (by decide), zup_ne _ _ _ (by decide)]; exact hfk, ?_, g, hg, by rw [zup_ne _ _ _ (by decide)]; exact hg1, by rw [zup_ne _ _ _ (by decide)]; exact hg2, fun j hj => ?_, hinj⟩
  · obtain ⟨h1, h2, h3, h4⟩ := hst
    refine ⟨fun r' hr' => ?_, fun j hj => ?_, fun j hj => ?_, fun j hj => ?_⟩
    · exact zRg_keep (h1 r' hr') (Nat.le_refl _) hkeep (fun q hq => zup_self_ne _ _ _ (by omega))
    · show zup I 4 w v 4 j = zup J 90 (776 + w) v 90 (0 + 776 + j)
      rw [zup_row, zup_row]
      by_cases hj' : j = w
      · rw [if_pos hj', if_pos (by omega)]
      · rw [if_neg hj', if_neg (by omega)]
        exact h2 j hj
    · rw [zup_row]
      by_cases hj' : j = w
      · rw [if_pos (by omega)]
        exact hv2 (by omega)
      · rw [if_neg (by omega)]
        exact h3 j hj
    · rw [zup_row]
      by_cases hj' : j = w
      · rw [if_pos (by omega)]
        exact hv
      · rw [if_neg (by omega)]
        exact h4 j hj
  · obtain ⟨a, ha, hza, hsta⟩ := hpast j hj
    refine ⟨a, ha, hza, fun hlt => ?_⟩
    refine zSt_keep (hsta hlt) (Nat.le_refl _) hkeep (fun _ _ => rfl) (fun j' hj' => by rw [zup_ne _ _ _ (by unfold zHa at hza; omega)]) (fun q hq => zup_self_ne _ _ _ (by omega))
theorem step_empty (F : Nat) (hF : 5000 ≤ F) : zStep_empty F 89 zSim := by
  intro k K I R n KM J RM x1 hS
  have hS0 := hS
  have hcf := zSim_cf hS
  obtain ⟨k0, k5, r3, r4⟩ := zK_fix hcf
  obtain ⟨⟨hn, hK, hK2, hK3, hR, hKM, hRM⟩, -, -, hst, -⟩ := hS
  have hRM0 : RM 89 0 = some 90 := hRM 89 0 (by decide) (by decide) (by decide)
  by_cases h1 : 0 ≤ x1 ∧ x1 ≤ 7
  · obtain ⟨r, hr, rfl⟩ := zreg h1
    have hrg := hst.1 r hr
    rw [Nat.zero_add] at hrg
    have hnone := zRg_none hrg
    cases hx : R (2 + 1) r with
    | none =>
      have hz : J 90 (97 * r) = 0 := hnone.mp hx
      refine ⟨-2, I, R, J, ?_, ?_, hS0⟩
      · unfold f_X6_empty
        rw [X6_reg hr, zbd_s, if_pos rfl, r3, zbd_s, zdr_s (t := 14) (by rw [hK 2 (by decide)]; rfl), zbd_s, X4_term hcf (Or.inl rfl) hr, hx, zbd_s, zcs_n]
      · unfold f_X7_empty
        rw [X7_reg hr, zbd_s, if_neg (by decide), hKM, X7_isEmpty hRM0 hr, if_pos hz, zbd_s, if_neg (by decide)]
    | some t =>
      have hz : ¬ J 90 (97 * r) = 0 := fun e => by rw [hnone.mpr e] at hx; cases hx
      rw [hx] at hrg
      obtain ⟨ht1, ht2, T, hT, hTc, hTm⟩ := hrg
      obtain ⟨I', R', J', s, e1, e2, hS', hz', f1, f2, f3, f4, f5, f6⟩ := zRem hF hS0
      have hcf' := zSim_cf hS'
      have hzs := hz'
      unfold zHa at hzs
      refine ⟨nI (tn T), I', zup R' 3 r none, zup J' 90 (97 * r) 0, ?_, ?_, ?_⟩
      · unfold f_X6_empty
        rw [X6_reg hr, zbd_s, if_pos rfl, r3, zbd_s, zdr_s (t := 14) (by rw [hK 2 (by decide)]; rfl), zbd_s, X4_term hcf (Or.inl rfl) hr, hx, zbd_s, zcs_s, e1, zbd2_s, (zK_fix hcf').2.2.1, zbd_s, zdr_s (t := 14) (by rw [hK 2 (by decide)]; rfl), zbd_s, X4_hold hcf' (Or.inl rfl) hr (fun b hb => by cases hb), zbd_s, if_pos (by rw [hTc.1]), f1 t (by omega) (by omega), hTc.2.2.2.2.2.2.2.1]
      · unfold f_X7_empty
        rw [X7_reg hr, zbd_s, if_neg (by decide), hKM, X7_isEmpty hRM0 hr, if_neg hz, zbd_s, if_pos rfl, ← hKM, e2, zbd_s, hRM0, zbd_s, hKM, zd91, zbd_s, show (97 : Int32) = nI 97 from rfl, nI_mul, zrd_s (by rw [zKm91]; show 97 * r < 5751; omega) (by decide), zbd_s, zbd_s, zd91, zbd_s, zwr_s (by rw [zKm91]; show 97 * r < 5751; omega) (by decide), zbd_s, f6 (97 * r) (by omega), hTm.1]
      · refine zSim_reg hS' hr none (fun q h2 h3 => zup_self_ne _ _ _ (by omega)) (fun q _ => by rw [zup_ne _ _ _ (by decide)]) (zup_ne _ _ _ (by decide)) ?_
        show zup J' 90 (97 * r) 0 90 (97 * r) = 0
        rw [zup_self]
  · refine ⟨-1, I, R, J, ?_, ?_, hS0⟩
    · unfold f_X6_empty
      rw [X6_noreg h1, zbd_s, if_neg (by decide)]
    · unfold f_X7_empty
      rw [X7_noreg h1, zbd_s, if_pos rfl]
