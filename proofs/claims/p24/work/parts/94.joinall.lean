/-! The step joinAll -/
def sbt (s j : Nat) : Nat := s / 2 ^ j % 2
theorem sbt_at : ∀ s, s < 256 → ∀ j, j < 8 → (nI s >>> (nI j &&& 31)) &&& (1 : Int32) = nI (sbt s j) := by decide +kernel
theorem sbt_sum : ∀ s, s < 256 → lpc (nI s) = nI (sbt s 0 + sbt s 1 + sbt s 2 + sbt s 3 + sbt s 4 + sbt s 5 + sbt s 6 + sbt s 7) := by decide +kernel
theorem sbt_tb (s j : Nat) : s.testBit j = true ↔ sbt s j = 1 := by
  unfold sbt
  rw [Nat.testBit_eq_decide_div_mod_eq, decide_eq_true_iff]
theorem sbt_in (s : Nat) (hs : s < 256) (m : Nat) (hm : m < 256) : (nI s &&& (nI m ^^^ (-1 : Int32))) = 0 ↔ ∀ j, j < 8 → sbt s j = 1 → sbt m j = 1 := by
  rw [sin_all hs hm]
  constructor
  · intro h j _ h1
    have h2 := (sbt_tb s j).mpr h1
    rw [← h, Nat.testBit_and, Bool.and_eq_true] at h2
    exact (sbt_tb m j).mp h2.2
  · intro h
    refine Nat.eq_of_testBit_eq (fun j => ?_)
    rw [Nat.testBit_and]
    by_cases hj : j < 8
    · cases h1 : s.testBit j with
      | false => rfl
      | true =>
        have := (sbt_tb m j).mpr (h j hj ((sbt_tb s j).mp h1))
        rw [this]; rfl
    · have : s.testBit j = false := Nat.testBit_lt_two_pow (Nat.lt_of_lt_of_le hs (show 2 ^ 8 ≤ 2 ^ j from Nat.pow_le_pow_right (by decide) (by omega)))
      rw [this]; rfl
theorem sbt_add : ∀ j, j < 8 → ∀ m, m < 2 ^ j → sbt (m + 2 ^ j) j = 1 ∧ sbt m j = 0 ∧ ∀ i, i < j → sbt (m + 2 ^ j) i = sbt m i := by decide +kernel
theorem sbt_lt (s j : Nat) : sbt s j < 2 := Nat.mod_lt _ (by decide)
theorem rHl_bits (P : Nat → Option Nat) : ∀ j, j ≤ 8 → ∃ m, m < 2 ^ j ∧ rHl P j = nI m ∧ ∀ i, i < j → (sbt m i = 1 ↔ P i ≠ none) := by
  intro j
  induction j with
  | zero => intro _; exact ⟨0, by decide, rfl, fun i hi => by omega⟩
  | succ j ih =>
    intro hj
    obtain ⟨m, h1, h2, h3⟩ := ih (by omega)
    obtain ⟨b1, b2, b3⟩ := sbt_add j (by omega) m h1
    cases hP : P j with
    | none =>
      refine ⟨m, Nat.lt_of_lt_of_le h1 (Nat.pow_le_pow_right (by decide) (by omega)), ?_, fun i hi => ?_⟩
      · simp only [rHl, hP]; exact h2
      · by_cases hij : i = j
        · subst hij
          rw [b2, hP]
          exact ⟨fun e => (by cases e), fun e => absurd rfl e⟩
        · exact h3 i (by omega)
    | some a =>
      obtain ⟨e1, e2, -⟩ := rbit j (by omega) m h1
      refine ⟨_, e2, ?_, fun i hi => ?_⟩
      · simp only [rHl, hP]; rw [h2, e1]
      · by_cases hij : i = j
        · subst hij
          rw [b1, hP]
          exact ⟨fun _ e => (by cases e), fun _ => rfl⟩
        · rw [b3 i (by omega)]
          exact h3 i (by omega)
section ZJL
variable {F : Nat} {RM : zR}
/-- the reference looks which registers are wanted -/
theorem wanted_both {K : zK} {I : zI} {R : zR} {n k : Nat} {J : zI} (hS : zSim k K I R n zKm J RM) {s : Nat} (hs : s < 256) (x2 : Int32) : ∀ (d i c f : Nat) (b : Int32), i + d = 8 → d < f → (b = 1 ∨ b = 0) → ∃ bb : Int32, (bb = 1 ∨ bb = 0) ∧ (bb = 1 ↔ (b = 1 ∧ ∀ j, i ≤ j → j < 8 → sbt s j = 1 → R 3 j ≠ none)) ∧ f_X7_joinAll_28 F zKm RM 89 f J (nI s) x2 (nI c) b (nI i) = f_X7_joinAll_28 F zKm RM 89 (f - d) J (nI s) x2 (nI (c + (if d < 8 then 0 else sbt s 0) + (if d < 7 then 0 else sbt s 1) + (if d < 6 then 0 else sbt s 2) + (if d < 5 then 0 else sbt s 3) + (if d < 4 then 0 else sbt s 4) + (if d < 3 then 0 else sbt s 5) + (if d < 2 then 0 else sbt s 6) + (if d < 1 then 0 else sbt s 7))) bb (nI 8) := by
  obtain ⟨hcf, hRM, -⟩ := zSim_ctx hS
  have hR0 : RM 89 0 = some 90 := hRM 89 0 (by decide) (by decide) (by decide)
  intro d
  induction d with
  | zero =>
    intro i c f b hi hf hb
    obtain rfl : i = 8 := by omega
    exact ⟨b, hb, ⟨fun h => ⟨h, fun j h1 h2 => (by omega)⟩, fun h => h.1⟩, rfl⟩
  | succ d ih =>
    intro i c f b hi hf hb
    obtain ⟨f, rfl⟩ : ∃ g, f = g + 1 := ⟨f - 1, by omega⟩
    have hi8 : i < 8 := by omega
    have hb2 := sbt_lt s i
    have hstep : ∃ b1 : Int32, (b1 = 1 ∨ b1 = 0) ∧ (b1 = 1 ↔ (b = 1 ∧ (sbt s i = 1 → R 3 i ≠ none))) ∧ f_X7_joinAll_28 F zKm RM 89 (f + 1) J (nI s) x2 (nI c) b (nI i) = f_X7_joinAll_28 F zKm RM 89 f J (nI s) x2 (nI (c + sbt s i)) b1 (nI (i + 1)) := by
      have e0 : f_X7_joinAll_28 F zKm RM 89 (f + 1) J (nI s) x2 (nI c) b (nI i) = if b = (0 : Int32) then f_X7_joinAll_28 F zKm RM 89 f J (nI s) x2 (nI (c + sbt s i)) 0 (nI (i + 1)) else if nI (sbt s i) = (0 : Int32) then f_X7_joinAll_28 F zKm RM 89 f J (nI s) x2 (nI (c + sbt s i)) 1 (nI (i + 1)) else if (if J 90 (97 * i) = 0 then (1 : Int32) else 0) = 0 then f_X7_joinAll_28 F zKm RM 89 f J (nI s) x2 (nI (c + sbt s i)) 1 (nI (i + 1)) else f_X7_joinAll_28 F zKm RM 89 f J (nI s) x2 (nI (c + sbt s i)) 0 (nI (i + 1)) := by
        show g_X7_joinAll_28 F zKm RM 89 _ J (nI s) x2 (nI c) b (nI i) = _
        unfold g_X7_joinAll_28 f_X7_joinAll_71 f_X7_joinAll_67 f_X7_joinAll_72
        rw [if_neg (show ¬ ((8 : Int32) ≤ nI i) from nI_ge (b := 8) (by omega) (by decide)), sbt_at s hs i hi8, nI_add, zbd_s, nI_1, X7_isEmpty hR0 hi8, zbd_s]
      rcases hb with rfl | rfl
      · rw [if_neg (by decide)] at e0
        by_cases h0 : sbt s i = 0
        · exact ⟨1, Or.inl rfl, ⟨fun _ => ⟨rfl, fun e => (by omega)⟩, fun _ => rfl⟩, by rw [e0, if_pos (by rw [h0]; rfl)]⟩
        · rw [if_neg (fun e => h0 ((ni0 (by omega)).mp e))] at e0
          rcases zSim_at hS hi8 with ⟨e1, e2⟩ | ⟨t, T, e1, e2, -⟩
          · exact ⟨0, Or.inr rfl, ⟨fun e => absurd e (by decide), fun e => absurd e1 (e.2 (by omega))⟩, by rw [e0, if_pos e2, if_neg (by decide)]⟩
          · exact ⟨1, Or.inl rfl, ⟨fun _ => ⟨rfl, fun _ e => (by rw [e1] at e; cases e)⟩, fun _ => rfl⟩, by rw [e0, if_neg e2, if_pos rfl]⟩
      · rw [if_pos rfl] at e0
        exact ⟨0, Or.inr rfl, ⟨fun e => absurd e (by decide), fun e => absurd e.1 (by decide)⟩, e0⟩
    obtain ⟨b1, p1, p2, p3⟩ := hstep
    obtain ⟨bb, q1, q2, q3⟩ := ih (i + 1) (c + sbt s i) f b1 (by omega) (by omega) p1
    refine ⟨bb, q1, ?_, ?_⟩
    · rw [q2, p2]
      constructor
      · rintro ⟨⟨a1, a2⟩, a3⟩
        refine ⟨a1, fun j h1 h2 => ?_⟩
        by_cases hj : j = i
        · rw [hj]; exact a2
        · exact a3 j (by omega) h2
      · rintro ⟨a1, a2⟩
        exact ⟨⟨a1, a2 i (Nat.le_refl _) hi8⟩, fun j h1 h2 => a2 j (by omega) h2⟩
    · rw [p3, q3, show f + 1 - (d + 1) = f - d by omega]
      congr 2
      have hd8 : d = 0 ∨ d = 1 ∨ d = 2 ∨ d = 3 ∨ d = 4 ∨ d = 5 ∨ d = 6 ∨ d = 7 := by omega
      rcases hd8 with rfl | rfl | rfl | rfl | rfl | rfl | rfl | rfl
      · obtain rfl : i = 7 := by omega
        simp
      · obtain rfl : i = 6 := by omega
        simp
      · obtain rfl : i = 5 := by omega
        simp
      · obtain rfl : i = 4 := by omega
        simp
      · obtain rfl : i = 3 := by omega
        simp
      · obtain rfl : i = 2 := by omega
        simp
      · obtain rfl : i = 1 := by omega
        simp
      · obtain rfl : i = 0 := by omega
        simp
/-- the pattern so far, on both sides -/
def zPf (K : zK) (I : zI) (R : zR) (J : zI) (n : Nat) (o : Option Nat) : Prop := (o = none ∧ J 90 5557 = 0) ∨ ∃ p P, o = some p ∧ 92 ≤ p ∧ p + 4 ≤ n ∧ tWF P ∧ zTc K I R p P ∧ zTm (J 90) 5557 P
theorem all_both (hF : 5000 ≤ F) {s r : Nat} (hs : s < 256) (hr : r < 8) : ∀ (d i k f f' n z : Nat) (K : zK) (I : zI) (R : zR) (J : zI) (o : Option Nat), zSim k K I R n zKm J RM → zPf K I R J n o → (o = none → ∀ j, j < i → sbt s j = 0) → (∀ j, j < 8 → sbt s j = 1 → R 3 j ≠ none) → (∃ j, j < 8 ∧ sbt s j = 1) → i + d = 8 → d < f → d < f' → d < z →
    ∃ v n1 K1 I1 R1 J1, f_X6_joinAll_49 F 0 f z n K I R (nI s) (nI r) o (nI i) = some (v, n1, K1, I1, R1) ∧ f_X7_joinAll_105 F zKm RM 89 f' J (nI s) (nI r) (nI i) = some (v, J1) ∧ zSim k K1 I1 R1 n1 zKm J1 RM := by
  intro d
  induction d with
  | zero =>
    intro i k f f' n z K I R J o hS hP ho hset hne hi hf hf' hz
    obtain ⟨f, rfl⟩ : ∃ g, f = g + 1 := ⟨f - 1, by omega⟩
    obtain ⟨f', rfl⟩ : ∃ g, f' = g + 1 := ⟨f' - 1, by omega⟩
    obtain ⟨z, rfl⟩ : ∃ g, z = g + 1 := ⟨z - 1, by omega⟩
    obtain rfl : i = 8 := by omega
    obtain ⟨hcf, hRM, -, hK, hR, hn⟩ := zSim_ctx hS
    rcases hP with ⟨hP, -⟩ | ⟨p, P, rfl, p1, p2, p3, p4, p5⟩
    · obtain ⟨j, j1, j2⟩ := hne
      have := ho hP j j1
      omega
    · obtain ⟨v, I3, R3, J3, a1, a2, a3⟩ := keep_both hF hS p1 p2 p3 p4 p5 (by decide) (by decide) hr
      refine ⟨v, n, K, I3, R3, J3, ?_, ?_, a3⟩
      · show g_X6_joinAll_49 F 0 _ (z + 1) n K I R (nI s) (nI r) (some p) (nI 8) = _
        unfold g_X6_joinAll_49
        show (if (8 : Int32) ≤ nI 8 then _ else _) = _
        rw [if_pos (by decide), if_pos (by rw [hK 0 (by decide)]; rfl), a1, zbd3_s]
      · show g_X7_joinAll_105 F zKm RM 89 _ J (nI s) (nI r) (nI 8) = _
        unfold g_X7_joinAll_105
        rw [if_pos (by decide)]
        exact a2
  | succ d ih =>
    intro i k f f' n z K I R J o hS hP ho hset hne hi hf hf' hz
    obtain ⟨f, rfl⟩ : ∃ g, f = g + 1 := ⟨f - 1, by omega⟩
    obtain ⟨f', rfl⟩ : ∃ g, f' = g + 1 := ⟨f' - 1, by omega⟩
    obtain ⟨z, rfl⟩ : ∃ g, z = g + 1 := ⟨z - 1, by omega⟩
    have hi8 : i < 8 := by omega
    obtain ⟨hcf, hRM, -, hK, hR, hn⟩ := zSim_ctx hS
    have hR0 : RM 89 0 = some 90 := hRM 89 0 (by decide) (by decide) (by decide)
    have r3 : R 0 3 = some 2 := hR 3 (by decide)
    have r8 : R 0 8 = some 21 := hR 8 (by decide)
    have k22 : (K 21).1 = 10 := by rw [hK 21 (by decide)]; rfl
    have k2 : (K 2).1 = 14 := by rw [hK 2 (by decide)]; rfl
    have k0 : (K 0).1 = 16 := by rw [hK 0 (by decide)]; rfl
    have hb2 := sbt_lt s i
    have eC : f_X6_joinAll_49 F 0 (f + 1) (z + 1) n K I R (nI s) (nI r) o (nI i) = if nI (sbt s i) = (0 : Int32) then f_X6_joinAll_49 F 0 f z n K I R (nI s) (nI r) o (nI (i + 1)) else zcs (R 3 i) (f_X6_joinAll_49 F 0 f z n K I R (nI s) (nI r) o (nI (i + 1))) (fun a15 => zcs o (f_X6_joinAll_49 F 0 f z n K I R (nI s) (nI r) (some a15) (nI (i + 1))) (fun a17 => zbd5 (f_X0_joined F n K (zBgI I) R 21 (some a17) (some a15)) fun o30 n31 K32 I33 R34 => zcs o30 (some ((-3 : Int32), n31, K32, I33, R34)) fun a36 => f_X6_joinAll_49 F 0 f z n31 K32 I33 R34 (nI s) (nI r) (some a36) (nI (i + 1)))) := by
      show g_X6_joinAll_49 F 0 (f_X6_joinAll_49 F 0 f) (z + 1) n K I R (nI s) (nI r) o (nI i) = _
      unfold g_X6_joinAll_49 f_X6_joinAll_123
      show (if (8 : Int32) ≤ nI i then _ else _) = _
      rw [if_neg (show ¬ ((8 : Int32) ≤ nI i) from nI_ge (b := 8) (by omega) (by decide)), if_pos k0, r3, zbd_s, zdr_s k2, zbd_s, X6_term hcf hi8, zbd_s, sbt_at s hs i hi8]
      simp only [r8, zbd_s, zdr_s k22, X0_begin hcf, nI_1]
    have eJ : f_X7_joinAll_105 F zKm RM 89 (f' + 1) J (nI s) (nI r) (nI i) = if nI (sbt s i) = (1 : Int32) then (if J 90 5557 = (0 : Int32) then f_X7_joinAll_143 F zKm RM 89 (f_X7_joinAll_105 F zKm RM 89 f') (zup J 89 16 0) (nI s) (nI r) (nI i) (1 : Int32) else f_X7_joinAll_143 F zKm RM 89 (f_X7_joinAll_105 F zKm RM 89 f') (zup J 89 16 0) (nI s) (nI r) (nI i) (0 : Int32)) else f_X7_joinAll_105 F zKm RM 89 f' J (nI s) (nI r) (nI (i + 1)) := by
      show g_X7_joinAll_105 F zKm RM 89 _ J (nI s) (nI r) (nI i) = _
      unfold g_X7_joinAll_105 f_X7_joinAll_194
      rw [if_neg (show ¬ ((8 : Int32) ≤ nI i) from nI_ge (b := 8) (by omega) (by decide)), sbt_at s hs i hi8, zbd_s, hR0, zbd_s, zd91, zbd_s, show zrd zKm (zup J 89 16 (0 : Int32)) 90 (5557 : Int32) = some (zup J 89 16 (0 : Int32) 90 5557) from zrd_s (j := 5557) (by decide) (by decide), zbd_s, zup_nb _ _ _ (by decide), nI_1]
    by_cases h0 : sbt s i = 0
    · rw [if_pos (by rw [h0]; rfl)] at eC
      rw [if_neg (by rw [h0]; decide)] at eJ
      obtain ⟨v, n1, K1, I1, R1, J1, b1, b2, b3⟩ := ih (i + 1) k f f' n z K I R J o hS hP (fun e j hj => by
        by_cases hji : j = i
        · rw [hji]; exact h0
        · exact ho e j (by omega)) hset hne (by omega) (by omega) (by omega) (by omega)
      exact ⟨v, n1, K1, I1, R1, J1, eC.trans b1, eJ.trans b2, b3⟩
    · have h1 : sbt s i = 1 := by omega
      rw [if_neg (fun e => h0 ((ni0 (by omega)).mp e))] at eC
      rw [if_pos (by rw [h1]; rfl)] at eJ
      rcases zSim_at hS hi8 with ⟨hx, -⟩ | ⟨t, T, hx, -, ht1, ht2, hT, hTc, hTm⟩
      · exact absurd hx (hset i hi8 h1)
      rw [hx, zcs_s] at eC
      have cpF : ∀ {J' : zI} {fr : Nat}, zSim k K I R n zKm J' RM → zSim k K I R n zKm (zCp J' fr 5557 97) RM := fun {J' fr} h => zSim_scr2 h (fun q hq => by unfold zCp; rw [if_neg (by omega)]) (by funext q; unfold zCp; rw [if_neg (by omega)]) (fun q _ => by unfold zCp; rw [if_neg (by omega)])
      rcases hP with ⟨rfl, hz0⟩ | ⟨p, P, rfl, p1, p2, p3, p4, p5⟩
      · rw [zcs_n] at eC
        rw [if_pos hz0] at eJ
        have hS1 : zSim k K I R n zKm (zup J 89 16 0) RM := zSim_scr2 hS (fun q _ => zup_nb _ _ _ (by decide) _) (zup_ne _ _ _ (by decide)) (fun q hq => zup_self_ne _ _ _ (by omega))
        have hm1 : zTm (zup J 89 16 (0 : Int32) 90) (97 * i) T := by rw [zup_ne _ _ _ (by decide)]; exact hTm
        obtain ⟨v, n1, K1, I1, R1, J1, b1, b2, b3⟩ := ih (i + 1) k f f' n z K I R (zCp (zup J 89 16 0) (97 * i) 5557 97) (some t) (cpF hS1) (Or.inr ⟨t, T, rfl, ht1, ht2, hT, hTc, zTm_keep hm1 (fun q hq => by unfold zCp; rw [if_pos ⟨rfl, by omega, by omega⟩, show 97 * i + (5557 + q - 5557) = 97 * i + q by omega]) hT.1.2.1⟩) (fun e => by cases e) hset hne (by omega) (by omega) (by omega) (by omega)
        refine ⟨v, n1, K1, I1, R1, J1, eC.trans b1, eJ.trans ?_, b3⟩
        unfold f_X7_joinAll_143 f_X7_joinAll_171 f_X7_joinAll_188 f_X7_joinAll_194
        rw [if_neg (by decide), if_neg (by decide), show zdr zKm (some 89) 17 = some 89 from rfl, zbd_s, nl97, nI_mul, show f_X7_copies F zKm (zup J 89 16 0) RM 89 (nI (97 * i)) (5557 : Int32) = some (zCp (zup J 89 16 0) (97 * i) 5557 97) from X7_copies (fr := 97 * i) (to := 5557) hRM (by omega) (by omega) (by decide) (by omega), zbd_s, nI_1]
        exact b2
      · rw [zcs_s] at eC
        have hz1 : ¬ J 90 5557 = 0 := by
          rw [p5.1]
          have := p3.1.1
          have := p3.1.2.1
          exact nI_ne0 (by omega) (by omega)
        rw [if_neg hz1] at eJ
        have hS1 : zSim k K (zBgI I) R n zKm (zup J 89 16 0) RM := zSim_begin hS
        have tr1 : zTr K (zBgI I) R (zup J 89 16 0) n (5460, 5557) 5460 p 5557 P := ⟨p1, p2, by decide, ⟨Or.inr (Nat.le_refl _), by decide, by decide⟩, p3, zTc_row p4 p1 (fun b hb => zBgI_b (by omega)) (fun _ _ => rfl), by rw [zup_ne _ _ _ (by decide)]; exact p5⟩
        have tr2 : zTr K (zBgI I) R (zup J 89 16 0) n (5460, 5557) 5460 t (97 * i) T := ⟨ht1, ht2, by omega, ⟨Or.inl (by show 97 * i + 97 ≤ 5460; omega), by decide, by decide⟩, hT, zTc_row hTc ht1 (fun b hb => zBgI_b (by omega)) (fun _ _ => rfl), by rw [zup_ne _ _ _ (by decide)]; exact hTm⟩
        obtain ⟨f0, f1⟩ := sim_flags hS
        obtain ⟨o', K', I', R', J', v, a1, a2, a3, a4, a5⟩ := joined_both (F := F) (to := 5460) hF hcf hn hRM (Nat.le_refl _) (by decide) tr1 tr2 tb_empty f0 f1
        have hS2 : zSim k K' I' R' (n + 4) zKm J' RM := zSim_join hS1 (Nat.le_refl _) a3 a4
        have a2' : f_X7_joins F zKm (zup J 89 16 0) RM 89 (5557 : Int32) (nI (97 * i)) (5460 : Int32) = some (v, J') := a2
        have eJ2 : f_X7_joinAll_105 F zKm RM 89 (f' + 1) J (nI s) (nI r) (nI i) = if v = (0 : Int32) then some ((-3 : Int32), J') else f_X7_joinAll_171 F zKm RM 89 (f_X7_joinAll_105 F zKm RM 89 f') J' (nI s) (nI r) (nI i) 0 := by
          rw [eJ]
          unfold f_X7_joinAll_143
          rw [if_pos rfl, nl97, nI_mul, a2', zbd2_s]
        rw [a1, zbd5_s] at eC
        rcases a5 with ⟨rfl, rfl⟩ | ⟨rfl, rfl, ⟨P', q1, q2, q3⟩, -⟩
        · exact ⟨-3, n + 4, K', I', R', J', eC, by rw [eJ2, if_pos rfl], hS2⟩
        · have e3 : ∀ j, R' 3 j = R 3 j := fun j => by rw [a3.2.2.2.2.1 3 (by omega) (by decide) (by decide) (by decide)]
          have hS3 : zSim k K' I' R' (n + 4) zKm (zCp J' 5460 5557 97) RM := zSim_scr2 hS2 (fun q hq => by unfold zCp; rw [if_neg (by omega)]) (by funext q; unfold zCp; rw [if_neg (by omega)]) (fun q _ => by unfold zCp; rw [if_neg (by omega)])
          obtain ⟨v, n1, K1, I1, R1, J1, b1, b2, b3⟩ := ih (i + 1) k f f' (n + 4) z K' I' R' (zCp J' 5460 5557 97) (some n) hS3 (Or.inr ⟨n, P', rfl, hn, Nat.le_refl _, q1, q2, zTm_keep q3 (fun q hq => by unfold zCp; rw [if_pos ⟨rfl, by omega, by omega⟩, show 5460 + (5557 + q - 5557) = 5460 + q by omega]) q1.1.2.1⟩) (fun e => by cases e) (fun j j1 j2 => by rw [e3]; exact hset j j1 j2) hne (by omega) (by omega) (by omega) (by omega)
          rw [zcs_s] at eC
          refine ⟨v, n1, K1, I1, R1, J1, eC.trans b1, ?_, b3⟩
          rw [eJ2, if_neg (by decide)]
          unfold f_X7_joinAll_171 f_X7_joinAll_188 f_X7_joinAll_194
          rw [if_pos rfl, show zdr zKm (some 89) 17 = some 89 from rfl, zbd_s, show f_X7_copies F zKm J' RM 89 (5460 : Int32) (5557 : Int32) = some (zCp J' 5460 5557 97) from X7_copies (fr := 5460) (to := 5557) hRM (by omega) (by decide) (by decide) (Or.inl (by decide)), zbd_s, nI_1]
          exact b2
end ZJL
theorem step_joinAll (F : Nat) (hF : 5000 ≤ F) : zStep_joinAll F 89 zSim := by
  intro k K I R n KM J RM x1 x2 hS
  have hS0 : zSim k K I R n KM J RM := zSim_scr hS (fun _ _ => rfl)
  obtain ⟨hcf, hRM, rfl, hK, hR, hn⟩ := zSim_ctx hS
  have hR0 : RM 89 0 = some 90 := hRM 89 0 (by decide) (by decide) (by decide)
  have r3 : R 0 3 = some 2 := hR 3 (by decide)
  have k2 : (K 2).1 = 14 := by rw [hK 2 (by decide)]; rfl
  have k0 : (K 0).1 = 16 := by rw [hK 0 (by decide)]; rfl
  have z10 : ¬ ((1 : Int32) = 0) := by decide
  by_cases h1 : 0 ≤ x1 ∧ x1 ≤ 255
  · obtain ⟨s, hs, rfl⟩ := zrange (n := 255) (by decide) h1
    by_cases h2 : 0 ≤ x2 ∧ x2 ≤ 7
    · obtain ⟨r, hr, rfl⟩ := zreg h2
      have hs' : s < 256 := by omega
      obtain ⟨m, m1, m2, m3⟩ := rHl_bits (R 3) 8 (Nat.le_refl _)
      have hheld : f_X4_registersHeld F K I R 2 = some (nI m) := by
        rw [← m2]
        unfold f_X4_registersHeld
        exact held4 hcf 8 0 F (by decide) (by omega)
      have hin := sbt_in s hs' m m1
      have hsum := sbt_sum s hs'
      have hc8 : sbt s 0 + sbt s 1 + sbt s 2 + sbt s 3 + sbt s 4 + sbt s 5 + sbt s 6 + sbt s 7 ≤ 8 := by
        have := sbt_lt s 0; have := sbt_lt s 1; have := sbt_lt s 2; have := sbt_lt s 3; have := sbt_lt s 4; have := sbt_lt s 5; have := sbt_lt s 6; have := sbt_lt s 7
        omega
      obtain ⟨cc, hcc⟩ : ∃ c, c = sbt s 0 + sbt s 1 + sbt s 2 + sbt s 3 + sbt s 4 + sbt s 5 + sbt s 6 + sbt s 7 := ⟨_, rfl⟩
      rw [← hcc] at hsum hc8
      have eC : f_X6_joinAll F n K I R 0 (nI s) (nI r) = if nI cc < (2 : Int32) then some ((-2 : Int32), n, K, I, R) else if (nI s &&& (nI m ^^^ (-1 : Int32))) = (0 : Int32) then f_X6_joinAll_49 F 0 F 9 n K I R (nI s) (nI r) none (nI 0) else some ((-2 : Int32), n, K, I, R) := by
        unfold f_X6_joinAll
        rw [zo_0 h1, zbd_s, if_pos rfl, X6_reg hr, zbd_s, if_pos rfl, J6_bit, zbd_s, hsum, if_pos k0, r3, zbd_s, zdr_s k2, zbd_s, hheld, zbd_s]
        rfl
      obtain ⟨bb, bb1, bb2, hw⟩ := wanted_both (F := F) hS0 hs' (nI r) 8 0 0 F 1 (by decide) (by omega) (Or.inl rfl)
      have eJ : f_X7_joinAll F zKm J RM 89 (nI s) (nI r) = if nI cc < (2 : Int32) then some ((-2 : Int32), J) else if bb = (0 : Int32) then some ((-2 : Int32), J) else f_X7_joinAll_105 F zKm RM 89 F (zup J 90 5557 0) (nI s) (nI r) (nI 0) := by
        unfold f_X7_joinAll
        rw [zi_1 h1, zbd_s, if_neg z10, X7_reg hr, zbd_s, if_neg z10]
        simp only [Nat.lt_irrefl, if_false, show ¬ (8 < 7) by decide, show ¬ (8 < 6) by decide, show ¬ (8 < 5) by decide, show ¬ (8 < 4) by decide, show ¬ (8 < 3) by decide, show ¬ (8 < 2) by decide, show ¬ (8 < 1) by decide, Nat.zero_add] at hw
        rw [← hcc] at hw
        refine (show f_X7_joinAll_28 F zKm RM 89 F J (nI s) (nI r) (0 : Int32) (1 : Int32) (0 : Int32) = _ from hw).trans ?_
        obtain ⟨g, hg⟩ : ∃ g, F - 8 = g + 1 := ⟨F - 9, by omega⟩
        rw [hg]
        show g_X7_joinAll_28 F zKm RM 89 _ J (nI s) (nI r) (nI cc) bb (nI 8) = _
        unfold g_X7_joinAll_28
        rw [if_pos (by decide), hR0, zbd_s, zd91, zbd_s, show zwr zKm J 90 (5557 : Int32) (0 : Int32) = some (zup J 90 5557 0) from zwr_s (j := 5557) (by decide) (by decide), zbd_s]
        rfl
      rw [eC, eJ]
      by_cases hc2 : nI cc < (2 : Int32)
      · exact ⟨-2, n, K, I, R, J, by rw [if_pos hc2], by rw [if_pos hc2], hS0⟩
      · rw [if_neg hc2, if_neg hc2]
        by_cases hall : ∀ j, j < 8 → sbt s j = 1 → R 3 j ≠ none
        · rw [if_pos (hin.mpr (fun j j1 j2 => (m3 j j1).mpr (hall j j1 j2))), bb2.mpr ⟨rfl, fun j _ j1 => hall j j1⟩, if_neg z10]
          have hS1 : zSim k K I R n zKm (zup J 90 5557 0) RM := zSim_scr2 hS0 (fun q hq => zup_self_ne _ _ _ (by omega)) (zup_ne _ _ _ (by decide)) (fun q _ => zup_nb _ _ _ (by decide) _)
          have hne : ∃ j, j < 8 ∧ sbt s j = 1 := by
            rcases Classical.em (∃ j, j < 8 ∧ sbt s j = 1) with h | h
            · exact h
            · exfalso
              have hz : ∀ j, j < 8 → sbt s j = 0 := fun j hj => by
                have := sbt_lt s j
                rcases Nat.lt_or_ge (sbt s j) 1 with h1 | h1
                · omega
                · exact absurd ⟨j, hj, by omega⟩ h
              rw [hz 0 (by decide), hz 1 (by decide), hz 2 (by decide), hz 3 (by decide), hz 4 (by decide), hz 5 (by decide), hz 6 (by decide), hz 7 (by decide)] at hcc
              exact hc2 (by rw [hcc]; decide)
          exact all_both (F := F) hF hs' hr 8 0 k F F n 9 K I R (zup J 90 5557 0) none hS1 (Or.inl ⟨rfl, zup_self _ _ _ _⟩) (fun _ j hj => by omega) hall hne (by decide) (by omega) (by omega) (by decide)
        · rw [if_neg (fun e => hall (fun j j1 j2 => (m3 j j1).mp (hin.mp e j j1 j2))), if_pos (bb1.resolve_left (fun e => hall (fun j j1 => (bb2.mp e).2 j (Nat.zero_le _) j1)))]
          exact ⟨-2, n, K, I, R, J, rfl, rfl, hS0⟩
    · refine ⟨-1, n, K, I, R, J, ?_, ?_, hS0⟩
      · unfold f_X6_joinAll
        rw [zo_0 h1, zbd_s, if_pos rfl, X6_noreg h2, zbd_s, if_neg z10]
      · unfold f_X7_joinAll
        rw [zi_1 h1, zbd_s, if_neg z10, X7_noreg h2, zbd_s, if_pos rfl]
  · refine ⟨-1, n, K, I, R, J, ?_, ?_, hS0⟩
    · unfold f_X6_joinAll
      rw [zo_1 h1, zbd_s, if_neg z10]
    · unfold f_X7_joinAll
      rw [zi_0 h1, zbd_s, if_pos rfl]
