/-! put(): the reference's test behind flattening -/
section ZPP
variable {F : Nat} {RM : zR} {T : Tm} {J : zI}
theorem sound37 (hRM : zRM RM) (h : zTm (J 90) 5460 T) (hn : tn T ≤ 32) (hr : ∀ i, i < tn T → tr T i ≤ 32) (hs : ∀ i, i < tn T → ts T i ≤ 3) (hJ : ∀ j, j < tn T → J 92 j = nI (tsp T j)) (k15 : zI → Int32 → Int32 → Option (Int32 × zI)) {i : Nat} (hi : i < tn T) {x1 : Int32} : ∀ (r : aFo) (b d c y t : Nat), aTf T r b d → b + qSz r ≤ tn T → y + qLn r = tr T i → c ≤ y → qLn r < t → ∃ x', (x' = 0 ∨ x' = 1) ∧ (x' = 1 ↔ x1 ≠ 0 ∧ tr T i ≤ 8 ∧ c + qSq r ≤ 1) ∧ f_X7_isSound_37 F zKm RM 89 k15 t J x1 (nI i) (nI c) (nI b) (nI y) = k15 J x' (nI (i + 1)) := by
  have r0 : RM 89 0 = some 90 := hRM 89 0 (by decide) (by decide) (by decide)
  have r5 : RM 89 5 = some 92 := hRM 89 5 (by decide) (by decide) (by decide)
  have K93 : zKm 92 = (1, 32) := rfl
  have hri := hr i hi
  intro r
  induction r with
  | leaf _ =>
    intro b d c y t _ hb hy hc ht
    obtain ⟨t, rfl⟩ : ∃ u, t = u + 1 := ⟨t - 1, by omega⟩
    have hy : y + 0 = tr T i := hy
    have e : f_X7_isSound_37 F zKm RM 89 k15 (t + 1) J x1 (nI i) (nI c) (nI b) (nI y) = k15 J (if x1 ≠ 0 ∧ tr T i ≤ 8 ∧ c + 0 ≤ 1 then 1 else 0) (nI (i + 1)) := by
      show g_X7_isSound_37 F zKm RM 89 k15 _ J x1 (nI i) (nI c) (nI b) (nI y) = _
      unfold g_X7_isSound_37 f_X7_isSound_115 f_X7_isSound_116
      rw [show (5460 : Int32) = nI 5460 from rfl, X7_arguments r0 (by decide) h hn hi, zbd_s, if_pos (nI_le (by omega) (by omega)), zbd_s, show nI i + (1 : Int32) = nI (i + 1) from by rw [show (1 : Int32) = nI 1 from rfl, nI_add]]
      by_cases c1 : x1 = 0
      · rw [if_pos c1, if_neg (fun hh => hh.1 c1)]
      · rw [if_neg c1]
        by_cases c2 : tr T i ≤ 8
        · rw [if_neg (show ¬ (8 : Int32) < nI (tr T i) from fun hh => Int32.not_le.mpr hh (nI_le (b := 8) (by omega) (by omega)))]
          by_cases c3 : c + 0 ≤ 1
          · rw [if_neg (show ¬ (2 : Int32) ≤ nI c from nI_ge (b := 2) (by omega) (by omega)), if_pos ⟨c1, c2, c3⟩]
          · rw [if_pos (show (2 : Int32) ≤ nI c from nI_le (a := 2) (by omega) (by omega)), if_neg (fun hh => c3 hh.2.2)]
        · rw [if_pos (show (8 : Int32) < nI (tr T i) from Int32.not_le.mp (nI_ge (a := 8) (by omega) (by omega))), if_neg (fun hh => c2 hh.2.1)]
    refine ⟨_, ?_, ?_, e⟩
    · by_cases c1 : x1 ≠ 0 ∧ tr T i ≤ 8 ∧ c + 0 ≤ 1
      · rw [if_pos c1]; exact Or.inr rfl
      · rw [if_neg c1]; exact Or.inl rfl
    · show _ ↔ x1 ≠ 0 ∧ tr T i ≤ 8 ∧ c + 0 ≤ 1
      by_cases c1 : x1 ≠ 0 ∧ tr T i ≤ 8 ∧ c + 0 ≤ 1
      · rw [if_pos c1]; exact ⟨fun _ => c1, fun _ => rfl⟩
      · rw [if_neg c1]; exact ⟨fun hh => absurd hh (by decide), fun hh => absurd hh c1⟩
  | branch w k r _ ih =>
    intro b d c y t hf hb hy hc ht
    obtain ⟨t, rfl⟩ : ∃ u, t = u + 1 := ⟨t - 1, by omega⟩
    have hy : y + (1 + qLn r) = tr T i := hy
    have ht : 1 + qLn r < t + 1 := ht
    have hb : b + (1 + qSz k + qSz r) ≤ tn T := hb
    have hbn : b < tn T := by omega
    obtain ⟨f1, -, -, f4, -⟩ := hf.1
    obtain ⟨x', a1, a2, a3⟩ := ih (b + 1 + qSz k) d (c + if w / 16 = 3 then 1 else 0) (y + 1) t hf.2.2 (by omega) (by omega) (by by_cases e : w / 16 = 3 <;> simp only [e, if_true, if_false] <;> omega) (by omega)
    refine ⟨x', a1, ?_, ?_⟩
    · rw [a2, show qSq (Lean.RArray.branch w k r) = (if w / 16 = 3 then 1 else 0) + qSq r from rfl, Nat.add_assoc]
    · rw [← a3]
      show g_X7_isSound_37 F zKm RM 89 k15 _ J x1 (nI i) (nI c) (nI b) (nI y) = _
      have e69 : ∀ z : Nat, f_X7_isSound_69 F zKm RM 89 k15 (f_X7_isSound_37 F zKm RM 89 k15 t) J x1 (nI i) (nI b) (nI y) (nI c) (nI z) = f_X7_isSound_37 F zKm RM 89 k15 t J x1 (nI i) (nI (c + z)) (nI (b + 1 + qSz k)) (nI (y + 1)) := fun z => by
        unfold f_X7_isSound_69
        rw [zbd_s, r5, zbd_s, zdr_s (t := 1) (by rw [K93]), zbd_s, zrd_s (by rw [K93]; show b < 32; omega) (by rw [K93]; decide), zbd_s, hJ b hbn, f4, nI_add, zbd_s, show (1 : Int32) = nI 1 from rfl, nI_add, nI_add, show b + (1 + qSz k) = b + 1 + qSz k by omega]
      unfold g_X7_isSound_37
      rw [show (5460 : Int32) = nI 5460 from rfl, X7_arguments r0 (by decide) h hn hi, zbd_s, if_neg (nI_ge (by omega) (by omega)), X7_sort r0 (by decide) h hn hbn, zbd_s, f1, show (1 : Int32) = nI 1 from rfl, show (0 : Int32) = nI 0 from rfl, e69, e69]
      have hs3 : nI (w / 16) = (3 : Int32) ↔ w / 16 = 3 := ni3 (by have := hs b hbn; omega)
      by_cases e : w / 16 = 3
      · rw [if_pos (hs3.mpr e), if_pos e]
      · rw [if_neg (fun hh => e (hs3.mp hh)), if_neg e]
theorem sound15 (hF : 100 ≤ F) (hRM : zRM RM) (h : zTm (J 90) 5460 T) (hT : tSh T) (hn : tn T ≤ 32) (hr : ∀ i, i < tn T → tr T i ≤ 32) (hs : ∀ i, i < tn T → ts T i ≤ 3) (hJ : ∀ j, j < tn T → J 92 j = nI (tsp T j)) : ∀ (G : aFo) (b d t : Nat) (x1 : Int32), aTf T G b d → b + qSz G ≤ tn T → (x1 = 0 ∨ x1 = 1) → ∃ x', (x' = 0 ∨ x' = 1) ∧ (x' = 1 ↔ x1 = 1 ∧ qS G) ∧ f_X7_isSound_15 F zKm RM 89 (t + qSz G) J x1 (nI b) = f_X7_isSound_15 F zKm RM 89 t J x' (nI (b + qSz G)) := by
  have r0 : RM 89 0 = some 90 := hRM 89 0 (by decide) (by decide) (by decide)
  intro G
  induction G with
  | leaf _ =>
    intro b d t x1 _ _ hx
    exact ⟨x1, hx, ⟨fun hh => ⟨hh, True.intro⟩, fun hh => hh.1⟩, rfl⟩
  | branch w k r ihk ihr =>
    intro b d t x1 hf hb hx
    have hb : b + (1 + qSz k + qSz r) ≤ tn T := hb
    have hbn : b < tn T := by omega
    obtain ⟨f1, -, f3, f4, -⟩ := hf.1
    have hlk := q_len_sz k
    obtain ⟨y1, a1, a2, a3⟩ := sound37 (F := F) hRM h hn hr hs hJ (f_X7_isSound_15 F zKm RM 89 (t + (qSz k + qSz r))) hbn (x1 := x1) k (b + 1) (d + 1) 0 0 F hf.2.1 (by omega) (by rw [Nat.zero_add]; exact f3.symm) (Nat.le_refl _) (by omega)
    obtain ⟨y2, b1, b2, b3⟩ := ihk (b + 1) (d + 1) (t + qSz r) y1 hf.2.1 (by omega) a1
    obtain ⟨y3, c1, c2, c3⟩ := ihr (b + 1 + qSz k) d t y2 hf.2.2 (by omega) b1
    refine ⟨y3, c1, ?_, ?_⟩
    · rw [c2, b2, a2, f3, Nat.zero_add, show qS (Lean.RArray.branch w k r) = ((qLn k ≤ 8 ∧ qSq k ≤ 1) ∧ qS k ∧ qS r) from rfl]
      have hx0 : x1 ≠ 0 ↔ x1 = 1 := ⟨fun e => hx.resolve_left e, fun e e0 => by rw [e0] at e; exact absurd e (by decide)⟩
      rw [hx0]
      exact ⟨fun hh => ⟨hh.1.1.1, hh.1.1.2, hh.1.2, hh.2⟩, fun hh => ⟨⟨⟨hh.1, hh.2.1⟩, hh.2.2.1⟩, hh.2.2.2⟩⟩
    · rw [show b + qSz (Lean.RArray.branch w k r) = b + 1 + qSz k + qSz r from by show b + (1 + qSz k + qSz r) = _; omega, ← c3, show b + 1 + qSz k = b + 1 + qSz k from rfl, ← b3, show t + qSz r + qSz k = t + (qSz k + qSz r) by omega, ← a3]
      rw [show t + qSz (Lean.RArray.branch w k r) = (t + (qSz k + qSz r)) + 1 from by show t + (1 + qSz k + qSz r) = _; omega]
      show g_X7_isSound_15 F zKm RM 89 (f_X7_isSound_15 F zKm RM 89 (t + (qSz k + qSz r))) J x1 (nI b) = _
      unfold g_X7_isSound_15
      rw [r0, zbd_s, zd91, zbd_s, show (5460 : Int32) = nI 5460 from rfl, zrd_s (by rw [zKm91]; decide) (by decide), zbd_s, h.1, if_neg (nI_ge (by omega) (by omega)), show (1 : Int32) = nI 1 from rfl, nI_add, zbd_s]
      rfl
theorem X7_isSound {G : aFo} (hF : 200 ≤ F) (hRM : zRM RM) (h1 : qLn G = 1) (h32 : qSz G ≤ 32) (hsm : aSm G) (h : zTm (J 90) 5460 (tmF G)) : ∃ (x : Int32) (J' : zI), f_X7_isSound F zKm J RM 89 = some (x, J') ∧ (x = 0 ∨ x = 1) ∧ (x = 1 ↔ qS G) ∧ ∀ b, b ≠ 92 → J' b = J b := by
  have r0 : RM 89 0 = some 90 := hRM 89 0 (by decide) (by decide) (by decide)
  have r5 : RM 89 5 = some 92 := hRM 89 5 (by decide) (by decide) (by decide)
  have hT := q_tSh_f h1 h32
  have hr : ∀ i, i < tn (tmF G) → tr (tmF G) i ≤ 32 := fun i hi => by
    have := q_nd_len G i hi
    rw [q_tr_f]
    omega
  obtain ⟨J1, hJ1⟩ : ∃ x : zI, x = zrw J 92 0 (tn (tmF G)) (fun j => nI (tsp (tmF G) j)) := ⟨_, rfl⟩
  have f1 : ∀ b, b ≠ 92 → J1 b = J b := fun b hb => by rw [hJ1, zrw_ne _ _ _ _ hb]
  have hT1 : zTm (J1 90) 5460 (tmF G) := by rw [f1 90 (by decide)]; exact h
  obtain ⟨x', a1, a2, a3⟩ := sound15 (F := F) (by omega) hRM hT1 hT h32 hr (fun i hi => by rw [q_ts_f]; exact (hsm i hi).1) (fun j hj => by rw [hJ1, zrw_in _ _ _ (Nat.zero_le _) hj]) G 0 0 (F - qSz G) 1 (aTf_tm G) (by show 0 + qSz G ≤ qSz G; omega) (Or.inr rfl)
  refine ⟨x', J1, ?_, a1, ?_, f1⟩
  · unfold f_X7_isSound
    rw [show (5460 : Int32) = nI 5460 from rfl, r5, zbd_s, X7_counts (by omega) r0 (by decide) rfl (by decide) hT hr h, zbd_s, ← hJ1]
    rw [Nat.sub_add_cancel (by omega)] at a3
    rw [show (0 : Int32) = nI 0 from rfl, a3, Nat.zero_add]
    obtain ⟨t, ht⟩ : ∃ t, F - qSz G = t + 1 := ⟨F - qSz G - 1, by omega⟩
    rw [ht]
    show g_X7_isSound_15 F zKm RM 89 _ J1 x' (nI (qSz G)) = _
    unfold g_X7_isSound_15
    rw [r0, zbd_s, zd91, zbd_s, show (5460 : Int32) = nI 5460 from rfl, zrd_s (by rw [zKm91]; decide) (by decide), zbd_s, hT1.1, if_pos (nI_le (by show qSz G ≤ _; omega) (by show _ < _; omega)), if_pos a1]
  · rw [a2]
    exact ⟨fun hh => hh.2, fun hh => ⟨rfl, hh⟩⟩
end ZPP
