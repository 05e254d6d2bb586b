/-! digest -/
section ZD1
variable {F k : Nat} {K : zK} {I : zI} {R : zR} {n : Nat} {J : zI} {RM : zR} {r t N : Nat}
theorem zbd2_ret {α β : Type} {o : Option (α × β)} {v : α} {w : β} (h : (zbd2 o fun a b => some (a, b)) = some (v, w)) : o = some (v, w) := by
  cases o with
  | none => cases h
  | some p => exact h
theorem sim_count (hS : zSim k K I R n zKm J RM) (hr : r < 8) (ht : R 3 r = some t) (hN : I t 3 = nI N) (hN2 : N ≤ 32) : ¬ J 90 (97 * r) = 0 ∧ J 90 (97 * r) = nI N ∧ (K t).1 = 15 := by
  rcases zSim_at hS hr with ⟨e, -⟩ | ⟨t', T, e, hz, -, -, hT, hTc, hTm⟩
  · rw [ht] at e; cases e
  · rw [ht] at e; cases e
    refine ⟨hz, ?_, by rw [hTc.1]⟩
    rw [hTm.1, ← hTc.2.2.2.2.2.2.2.1, hN]
theorem node_at (hF : 5000 ≤ F) (hS : zSim k K I R n zKm J RM) (hr : r < 8) (ht : R 3 r = some t) (hN : I t 3 = nI N) (hN2 : N ≤ 32) {i x : Nat} (hi : i < N) (hx : x < 5) : ∃ v J1, f_X6_node F K I R 0 (nI r) (nI i) (nI x) = some v ∧ f_X7_nodeOf F zKm J RM 89 (nI r) (nI i) (nI x) = some (v, J1) ∧ zSim k K I R n zKm J1 RM := by
  obtain ⟨hcf, hRM, -⟩ := zSim_ctx hS
  have hR0 : RM 89 0 = some 90 := hRM 89 0 (by decide) (by decide) (by decide)
  obtain ⟨v, J1, a1, a2, a3⟩ := step_node F hF k K I R n zKm J RM (nI r) (nI i) (nI x) (zSim_scr hS (fun _ _ => rfl))
  obtain ⟨hz, hc, -⟩ := sim_count hS hr ht hN hN2
  refine ⟨v, J1, a1, zbd2_ret ?_, a3⟩
  unfold f_X7_node at a2
  rw [X7_reg hr, zbd_s, if_neg (by decide), if_neg (nI_pos (by omega)), zi_1 (show (0 : Int32) ≤ nI x ∧ nI x ≤ 4 from ⟨nI_pos' (by omega), nI_le (b := 4) (by omega) (by omega)⟩), zbd_s, if_neg (by decide), X7_isEmpty hR0 hr, zbd_s, if_neg hz, if_pos rfl, hR0, zbd_s, zd91, zbd_s, nl97, nI_mul, zrd_s (by rw [zKm91]; show 97 * r < 5751; omega) (by decide), zbd_s, hc, if_neg (nI_ge hi (by omega))] at a2
  exact a2
theorem size_at (hF : 5000 ≤ F) (hS : zSim k K I R n zKm J RM) (hr : r < 8) (ht : R 3 r = some t) (hN : I t 3 = nI N) (hN2 : N ≤ 32) {x : Nat} (hx : x < 5) : ∃ v J1, f_X6_size F K I R 0 (nI r) (nI x) = some v ∧ f_X7_sizeOf F zKm J RM 89 (nI r) (nI x) = some (v, J1) ∧ zSim k K I R n zKm J1 RM := by
  obtain ⟨hcf, hRM, -⟩ := zSim_ctx hS
  have hR0 : RM 89 0 = some 90 := hRM 89 0 (by decide) (by decide) (by decide)
  obtain ⟨v, J1, a1, a2, a3⟩ := step_size F hF k K I R n zKm J RM (nI r) (nI x) (zSim_scr hS (fun _ _ => rfl))
  obtain ⟨hz, hc, -⟩ := sim_count hS hr ht hN hN2
  refine ⟨v, J1, a1, zbd2_ret ?_, a3⟩
  unfold f_X7_size at a2
  rw [X7_reg hr, zbd_s, if_neg (by decide), zi_1 (show (0 : Int32) ≤ nI x ∧ nI x ≤ 4 from ⟨nI_pos' (by omega), nI_le (b := 4) (by omega) (by omega)⟩), zbd_s, if_neg (by decide), X7_isEmpty hR0 hr, zbd_s, if_neg hz, if_pos rfl] at a2
  exact a2
theorem dg112 (hF : 5000 ≤ F) (hr : r < 8) (ht : R 3 r = some t) (hN : I t 3 = nI N) (hN2 : N ≤ 32) {i : Nat} (hi : i < N) (k33 : zI → zR → Int64 → Int32 → Option (Int64 × zI × zR)) (k99 : zI → zR → Int64 → Int32 → Option Nat → Int32 → Option (Int64 × zI × zR)) (k45 : zI → Int32 → Int64 → Int32 → Option (Int64 × zI)) : ∀ (d x f f' : Nat) (h : Int64) (J : zI), zSim k K I R n zKm J RM → x + d = 5 → d < f → d < f' → ∃ h' J', f_X6_digest_112 F K 0 k33 k99 f I R h (nI r) (some t) (nI i) (nI x) = k99 I R h' (nI r) (some t) (nI (i + 1)) ∧ f_X7_mixedRegister_62 F zKm RM 89 k45 f' J (nI r) h (nI i) (nI x) = k45 J' (nI r) h' (nI (i + 1)) ∧ zSim k K I R n zKm J' RM := by
  intro d
  induction d with
  | zero =>
    intro x f f' h J hS hx hf hf'
    obtain ⟨f, rfl⟩ : ∃ g, f = g + 1 := ⟨f - 1, by omega⟩
    obtain ⟨f', rfl⟩ : ∃ g, f' = g + 1 := ⟨f' - 1, by omega⟩
    obtain rfl : x = 5 := by omega
    refine ⟨h, J, ?_, ?_, hS⟩
    · show g_X6_digest_112 F K 0 k33 k99 _ I R h (nI r) (some t) (nI i) (nI 5) = _
      unfold g_X6_digest_112
      rw [if_pos (by decide), nI_1]
    · show g_X7_mixedRegister_62 F zKm RM 89 k45 _ J (nI r) h (nI i) (nI 5) = _
      unfold g_X7_mixedRegister_62
      rw [if_pos (by decide), nI_1]
  | succ d ih =>
    intro x f f' h J hS hx hf hf'
    obtain ⟨f, rfl⟩ : ∃ g, f = g + 1 := ⟨f - 1, by omega⟩
    obtain ⟨f', rfl⟩ : ∃ g, f' = g + 1 := ⟨f' - 1, by omega⟩
    obtain ⟨v, J1, a1, a2, a3⟩ := node_at hF hS hr ht hN hN2 hi (show x < 5 by omega)
    obtain ⟨h', J', b1, b2, b3⟩ := ih (x + 1) f f' (((31 : Int64) * h) + (v.toInt64)) J1 a3 (by omega) (by omega) (by omega)
    refine ⟨h', J', ?_, ?_, b3⟩
    · show g_X6_digest_112 F K 0 k33 k99 _ I R h (nI r) (some t) (nI i) (nI x) = _
      unfold g_X6_digest_112
      rw [if_neg (show ¬ ((4 : Int32) < nI x) from nI_nlt (a := 4) (by omega) (by omega)), a1, zbd_s, zbd_s, nI_1]
      exact b1
    · show g_X7_mixedRegister_62 F zKm RM 89 k45 _ J (nI r) h (nI i) (nI x) = _
      unfold g_X7_mixedRegister_62
      rw [if_neg (show ¬ ((4 : Int32) < nI x) from nI_nlt (a := 4) (by omega) (by omega)), a2, zbd2_s, zbd_s, nI_1]
      exact b2
/-- the nodes, then covered() -/
theorem dg99 (hF : 5000 ≤ F) (hr : r < 8) (ht : R 3 r = some t) (hN : I t 3 = nI N) (hN2 : N ≤ 32) (k33 : zI → zR → Int64 → Int32 → Option (Int64 × zI × zR)) : ∀ (d i f f' : Nat) (h : Int64) (J : zI), zSim k K I R n zKm J RM → i + d = N → d < f → d < f' → ∃ h' I' R' J', f_X6_digest_99 F K 0 k33 f I R h (nI r) (some t) (nI i) = k33 I' R' h' (nI (r + 1)) ∧ f_X7_mixedRegister_45 F zKm RM 89 f' J (nI r) h (nI i) = some (h', J') ∧ zSim k K I' R' n zKm J' RM := by
  intro d
  induction d with
  | zero =>
    intro i f f' h J hS hx hf hf'
    obtain ⟨f, rfl⟩ : ∃ g, f = g + 1 := ⟨f - 1, by omega⟩
    obtain ⟨f', rfl⟩ : ∃ g, f' = g + 1 := ⟨f' - 1, by omega⟩
    obtain rfl : i = N := by omega
    obtain ⟨hcf, hRM, -⟩ := zSim_ctx hS
    have hR0 : RM 89 0 = some 90 := hRM 89 0 (by decide) (by decide) (by decide)
    obtain ⟨hz, hc, h15⟩ := sim_count hS hr ht hN hN2
    obtain ⟨v, I1, R1, J1, a1, a2, a3, -⟩ := covered_at hF hS hr ht
    refine ⟨((31 : Int64) * h) + (v.toInt64), I1, R1, J1, ?_, ?_, a3⟩
    · show g_X6_digest_99 F K 0 k33 _ I R h (nI r) (some t) (nI i) = _
      unfold g_X6_digest_99 f_X6_digest_160
      rw [zdr_s h15, zbd_s, hN, if_pos (nI_le (Nat.le_refl _) (by omega)), a1, zbd3_s, zbd_s, nI_1]
    · show g_X7_mixedRegister_45 F zKm RM 89 _ J (nI r) h (nI i) = _
      unfold g_X7_mixedRegister_45
      rw [hR0, zbd_s, zd91, zbd_s, nl97, nI_mul, zrd_s (by rw [zKm91]; show 97 * r < 5751; omega) (by decide), zbd_s, hc, if_pos (nI_le (Nat.le_refl _) (by omega)), a2, zbd2_s]
  | succ d ih =>
    intro i f f' h J hS hx hf hf'
    obtain ⟨f, rfl⟩ : ∃ g, f = g + 1 := ⟨f - 1, by omega⟩
    obtain ⟨f', rfl⟩ : ∃ g, f' = g + 1 := ⟨f' - 1, by omega⟩
    obtain ⟨hcf, hRM, -⟩ := zSim_ctx hS
    have hR0 : RM 89 0 = some 90 := hRM 89 0 (by decide) (by decide) (by decide)
    obtain ⟨hz, hc, h15⟩ := sim_count hS hr ht hN hN2
    obtain ⟨h1, J1, a1, a2, a3⟩ := dg112 hF hr ht hN hN2 (show i < N by omega) k33 (f_X6_digest_99 F K 0 k33 f) (f_X7_mixedRegister_45 F zKm RM 89 f') 5 0 F F h J hS (by decide) (by omega) (by omega)
    obtain ⟨h', I', R', J', b1, b2, b3⟩ := ih (i + 1) f f' h1 J1 a3 (by omega) (by omega) (by omega)
    refine ⟨h', I', R', J', ?_, ?_, b3⟩
    · show g_X6_digest_99 F K 0 k33 _ I R h (nI r) (some t) (nI i) = _
      unfold g_X6_digest_99
      rw [zdr_s h15, zbd_s, hN, if_neg (nI_ge (by omega) (by omega))]
      exact a1.trans b1
    · show g_X7_mixedRegister_45 F zKm RM 89 _ J (nI r) h (nI i) = _
      unfold g_X7_mixedRegister_45
      rw [hR0, zbd_s, zd91, zbd_s, nl97, nI_mul, zrd_s (by rw [zKm91]; show 97 * r < 5751; omega) (by decide), zbd_s, hc, if_neg (nI_ge (by omega) (by omega))]
      exact a2.trans b2
theorem dg69 (hF : 5000 ≤ F) (hr : r < 8) (ht : R 3 r = some t) (hN : I t 3 = nI N) (hN2 : N ≤ 32) (k33 : zI → zR → Int64 → Int32 → Option (Int64 × zI × zR)) : ∀ (d x f f' : Nat) (h : Int64) (J : zI), zSim k K I R n zKm J RM → x + d = 5 → d < f → d < f' → ∃ h' I' R' J', f_X6_digest_69 F K 0 k33 f I R h (nI r) (some t) (nI x) = k33 I' R' h' (nI (r + 1)) ∧ f_X7_mixedRegister_13 F zKm RM 89 f' J (nI r) h (nI x) = some (h', J') ∧ zSim k K I' R' n zKm J' RM := by
  intro d
  induction d with
  | zero =>
    intro x f f' h J hS hx hf hf'
    obtain ⟨f, rfl⟩ : ∃ g, f = g + 1 := ⟨f - 1, by omega⟩
    obtain ⟨f', rfl⟩ : ∃ g, f' = g + 1 := ⟨f' - 1, by omega⟩
    obtain rfl : x = 5 := by omega
    obtain ⟨h', I', R', J', b1, b2, b3⟩ := dg99 (F := F) hF hr ht hN hN2 k33 N 0 F F h J hS (by omega) (by omega) (by omega)
    refine ⟨h', I', R', J', ?_, ?_, b3⟩
    · show g_X6_digest_69 F K 0 k33 _ I R h (nI r) (some t) (nI 5) = _
      unfold g_X6_digest_69
      rw [if_pos (by decide)]
      exact b1
    · show g_X7_mixedRegister_13 F zKm RM 89 _ J (nI r) h (nI 5) = _
      unfold g_X7_mixedRegister_13
      rw [if_pos (by decide)]
      exact b2
  | succ d ih =>
    intro x f f' h J hS hx hf hf'
    obtain ⟨f, rfl⟩ : ∃ g, f = g + 1 := ⟨f - 1, by omega⟩
    obtain ⟨f', rfl⟩ : ∃ g, f' = g + 1 := ⟨f' - 1, by omega⟩
    obtain ⟨v, J1, a1, a2, a3⟩ := size_at hF hS hr ht hN hN2 (show x < 5 by omega)
    obtain ⟨h', I', R', J', b1, b2, b3⟩ := ih (x + 1) f f' (((31 : Int64) * h) + (v.toInt64)) J1 a3 (by omega) (by omega) (by omega)
    refine ⟨h', I', R', J', ?_, ?_, b3⟩
    · show g_X6_digest_69 F K 0 k33 _ I R h (nI r) (some t) (nI x) = _
      unfold g_X6_digest_69
      rw [if_neg (show ¬ ((4 : Int32) < nI x) from nI_nlt (a := 4) (by omega) (by omega)), a1, zbd_s, zbd_s, nI_1]
      exact b1
    · show g_X7_mixedRegister_13 F zKm RM 89 _ J (nI r) h (nI x) = _
      unfold g_X7_mixedRegister_13
      rw [if_neg (show ¬ ((4 : Int32) < nI x) from nI_nlt (a := 4) (by omega) (by omega)), a2, zbd2_s, zbd_s, nI_1]
      exact b2
theorem dg33 (hF : 5000 ≤ F) : ∀ (d r f f' : Nat) (h : Int64) (I : zI) (R : zR) (J : zI), zSim k K I R n zKm J RM → r + d = 8 → d < f → d < f' → ∃ h' I' R' J', f_X6_digest_33 F K 0 f I R h (nI r) = some (h', I', R') ∧ f_X7_digest_33 F zKm RM 89 f' J h (nI r) = some (h', J') ∧ zSim k K I' R' n zKm J' RM := by
  intro d
  induction d with
  | zero =>
    intro r f f' h I R J hS hx hf hf'
    obtain ⟨f, rfl⟩ : ∃ g, f = g + 1 := ⟨f - 1, by omega⟩
    obtain ⟨f', rfl⟩ : ∃ g, f' = g + 1 := ⟨f' - 1, by omega⟩
    obtain rfl : r = 8 := by omega
    refine ⟨((31 : Int64) * h) + ((I 0 2).toInt64), I, R, J, rfl, ?_, hS⟩
    rw [hS.2.2.1]
    rfl
  | succ d ih =>
    intro r f f' h I R J hS hx hf hf'
    obtain ⟨f, rfl⟩ : ∃ g, f = g + 1 := ⟨f - 1, by omega⟩
    obtain ⟨f', rfl⟩ : ∃ g, f' = g + 1 := ⟨f' - 1, by omega⟩
    obtain ⟨hcf, hRM, -, hK, hR, hn⟩ := zSim_ctx hS
    have hR0 : RM 89 0 = some 90 := hRM 89 0 (by decide) (by decide) (by decide)
    have r3 : R 0 3 = some 2 := hR 3 (by decide)
    have k2 : K 2 = (14, 0) := hK 2 (by decide)
    have hr8 : r < 8 := by omega
    have n8 : ¬ ((8 : Int32) ≤ nI r) := nI_ge (b := 8) (by omega) (by omega)
    have e6 : f_X6_digest_33 F K 0 (f + 1) I R h (nI r) = zcs (R 3 r) (f_X6_digest_33 F K 0 f I R h (nI (r + 1))) (fun a25 => f_X6_digest_69 F K 0 (f_X6_digest_33 F K 0 f) F I R (((31 : Int64) * h) + ((nI r).toInt64)) (nI r) (some a25) (0 : Int32)) := by
      show g_X6_digest_33 F K 0 _ I R h (nI r) = _
      unfold g_X6_digest_33 f_X6_digest_160
      rw [if_neg n8, r3, zbd_s, zdr_s (t := 14) (by rw [k2]), zbd_s, X6_term hcf hr8, zbd_s, nI_1]
      rfl
    have e7 : f_X7_digest_33 F zKm RM 89 (f' + 1) J h (nI r) = if J 90 (97 * r) = 0 then f_X7_digest_33 F zKm RM 89 f' J h (nI (r + 1)) else (zbd2 (f_X7_mixedRegister F zKm J RM 89 h (nI r)) fun v5 I6 => f_X7_digest_33 F zKm RM 89 f' I6 v5 (nI (r + 1))) := by
      show g_X7_digest_33 F zKm RM 89 _ J h (nI r) = _
      unfold g_X7_digest_33 f_X7_digest_57
      rw [if_neg n8, X7_isEmpty hR0 hr8, zbd_s, nI_1]
      by_cases h : J 90 (97 * r) = 0
      · rw [if_pos h, if_pos h, if_neg (by decide)]
      · rw [if_neg h, if_neg h, if_pos rfl]
    rcases zSim_at hS hr8 with ⟨hx', hz⟩ | ⟨t, T, hx', hz, ht1, ht2, hT, hTc, hTm⟩
    · rw [e6, hx', zcs_n, e7, if_pos hz]
      exact ih (r + 1) f f' h I R J hS (by omega) (by omega) (by omega)
    · obtain ⟨h1, I1, R1, J1, a1, a2, a3⟩ := dg69 (F := F) hF hr8 hx' hTc.2.2.2.2.2.2.2.1 hT.1.2.1 (f_X6_digest_33 F K 0 f) 5 0 F F (((31 : Int64) * h) + ((nI r).toInt64)) J hS (by decide) (by omega) (by omega)
      obtain ⟨h', I', R', J', b1, b2, b3⟩ := ih (r + 1) f f' h1 I1 R1 J1 a3 (by omega) (by omega) (by omega)
      refine ⟨h', I', R', J', ?_, ?_, b3⟩
      · rw [e6, hx', zcs_s]
        exact a1.trans b1
      · rw [e7, if_neg hz]
        unfold f_X7_mixedRegister
        rw [zbd_s]
        have a2' : f_X7_mixedRegister_13 F zKm RM 89 F J (nI r) (((31 : Int64) * h) + ((nI r).toInt64)) (0 : Int32) = some (h1, J1) := a2
        rw [a2', zbd2_s]
        exact b2
theorem dg6 (hF : 5000 ≤ F) (hS : zSim k K I R n zKm J RM) : ∀ (d x f f' : Nat) (h : Int64), x + d = 8 → d < f → d < f' → ∃ h' I' R' J', f_X6_digest_6 F K 0 f I R h (nI x) = some (h', I', R') ∧ f_X7_digest_6 F zKm RM 89 f' J h (nI x) = some (h', J') ∧ zSim k K I' R' n zKm J' RM := by
  intro d
  induction d with
  | zero =>
    intro x f f' h hx hf hf'
    obtain ⟨f, rfl⟩ : ∃ g, f = g + 1 := ⟨f - 1, by omega⟩
    obtain ⟨f', rfl⟩ : ∃ g, f' = g + 1 := ⟨f' - 1, by omega⟩
    obtain rfl : x = 8 := by omega
    exact dg33 (F := F) hF 8 0 F F h I R J hS (by decide) (by omega) (by omega)
  | succ d ih =>
    intro x f f' h hx hf hf'
    obtain ⟨f, rfl⟩ : ∃ g, f = g + 1 := ⟨f - 1, by omega⟩
    obtain ⟨f', rfl⟩ : ∃ g, f' = g + 1 := ⟨f' - 1, by omega⟩
    obtain ⟨v, a1, a2, -⟩ := step_told F hF k K I R n zKm J RM (nI x) (zSim_scr hS (fun _ _ => rfl))
    obtain ⟨h', I', R', J', b1, b2, b3⟩ := ih (x + 1) f f' (((31 : Int64) * h) + (v.toInt64)) (by omega) (by omega) (by omega)
    refine ⟨h', I', R', J', ?_, ?_, b3⟩
    · show g_X6_digest_6 F K 0 _ I R h (nI x) = _
      unfold g_X6_digest_6
      rw [if_neg (show ¬ ((7 : Int32) < nI x) from nI_nlt (a := 7) (by omega) (by omega)), a1, zbd_s, zbd_s, nI_1]
      exact b1
    · show g_X7_digest_6 F zKm RM 89 _ J h (nI x) = _
      unfold g_X7_digest_6
      rw [if_neg (show ¬ ((7 : Int32) < nI x) from nI_nlt (a := 7) (by omega) (by omega)), a2, zbd_s, zbd_s, nI_1]
      exact b2
end ZD1
theorem step_digest (F : Nat) (hF : 5000 ≤ F) : zStep_digest F 89 zSim := by
  intro k K I R n KM J RM hS
  have hS0 : zSim k K I R n KM J RM := zSim_scr hS (fun _ _ => rfl)
  obtain ⟨hcf, hRM, rfl, -⟩ := zSim_ctx hS
  obtain ⟨h', I', R', J', b1, b2, b3⟩ := dg6 hF hS0 8 0 F F (17369 : Int64) (by decide) (by omega) (by omega)
  exact ⟨h', I', R', J', b1, b2, b3⟩
