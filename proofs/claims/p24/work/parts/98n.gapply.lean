/-! THE GHOST'S apply() -/
/-- a pattern without holes fills nothing -/
theorem mt_hf : ∀ (P A : aFo) (j : Nat) (f f' : pFl), pHF P → mt P A j f = some f' → f' = f := by
  intro P
  induction P with
  | leaf _ =>
    intro A j f f' _ h
    cases A with
    | leaf _ => rw [mt] at h; cases h; rfl
    | branch _ _ _ => rw [mt] at h; cases h
  | branch w P Q ihP ihQ =>
    intro A j f f' hp h
    obtain ⟨h1, h2, h3⟩ := hp
    cases A with
    | leaf _ => rw [mt] at h; cases h
    | branch v k r =>
      rw [mt, if_pos h1] at h
      by_cases c2 : v = w ∧ qLn P = qLn k
      · rw [if_pos c2] at h
        obtain ⟨f1, a1, a2⟩ := pBind.mp h
        have e1 := ihP _ _ _ _ h2 a1
        have e2 := ihQ _ _ _ _ h3 a2
        rw [e2, e1]
      · rw [if_neg c2] at h; cases h
section GAP
variable {F : Nat} {J J' : zI} {RM : zR} {S : gSt} {c : Nat → Int32} {H : List (gSt × (Nat → Int32))} {r q o t to ow : Nat} {P A B : aFo} {W : Tm}
theorem gBuild (hF : 200 ≤ F) (hRM : zRM RM) (how : ow + 97 ≤ to) (hto : to + 97 ≤ 5751) (hW : tWF W) (hW0 : ∀ i, i < tn W → ts W i = 0) (x2 : Int32) : ∀ (d i f : Nat) (J : zI), i + d = tn W → d < f → zTm (J 90) ow W → (∀ y, y < tn W → J 92 y = nI (tsp W y)) → (∀ g, g < 10 → J 113 g = -1) → (∀ y, y < i → J 90 (to + 1 + 3 * y) = nI (ts W y) ∧ J 90 (to + 2 + 3 * y) = nI (tg W y) ∧ J 90 (to + 3 + 3 * y) = nI (tr W y)) →
    ∃ J', f_X7_builds_15 F zKm RM 89 f J (nI ow) x2 (nI to) (nI i) (nI i) = some (1, J') ∧ zTm (J' 90) to W ∧ (∀ b, b ≠ 90 → b ≠ 92 → b ≠ 94 → b ≠ 95 → J' b = J b) ∧ ∀ x, x < to ∨ to + 97 ≤ x → J' 90 x = J 90 x := by
  have r0 : RM 89 0 = some 90 := hRM 89 0 (by decide) (by decide) (by decide)
  have hn := hW.1.2.1
  intro d
  induction d with
  | zero =>
    intro i f J hi hf hWm h93 h113 hc
    obtain ⟨f, rfl⟩ : ∃ g, f = g + 1 := ⟨f - 1, by omega⟩
    obtain rfl : i = tn W := by omega
    have hm1 : zTm (zup J 90 to (nI (tn W)) 90) to W := by
      refine ⟨zup_self _ _ _ _, fun y hy => ?_⟩
      rw [zup_self_ne _ _ _ (by omega), zup_self_ne _ _ _ (by omega), zup_self_ne _ _ _ (by omega)]
      exact hc y hy
    obtain ⟨J', j1, j2, j3⟩ := X7_levels (F := F) (J := zup J 90 to (nI (tn W))) (by omega) r0 (hRM 89 5 (by decide) (by decide) (by decide)) (hRM 89 7 (by decide) (by decide) (by decide)) (hRM 89 8 (by decide) (by decide) (by decide)) hto hW.1 (tWF_r hW) hm1
    obtain ⟨v, v1, v2, v3⟩ := builds271 (F := F) hRM hW.1 (fun j hj => (j3 j hj).2) (tn W) 0 F 1 (by omega) (by omega) (Or.inr rfl)
    have hv : v = 1 := v3.mpr ⟨rfl, fun y _ hy => (hW.2.1 y hy).2.2.2.2.2.2⟩
    subst hv
    refine ⟨J', ?_, zTm_keep hm1 (fun q _ => by rw [j2 90 (by decide) (by decide) (by decide)]) hn, fun b b1 b2 b3 b4 => by rw [j2 b b2 b3 b4, zup_ne _ _ _ b1], fun x hx => by rw [j2 90 (by decide) (by decide) (by decide), zup_self_ne _ _ _ (by omega)]⟩
    show g_X7_builds_15 F zKm RM 89 _ J (nI ow) x2 (nI to) (nI (tn W)) (nI (tn W)) = _
    unfold g_X7_builds_15
    rw [r0, zbd_s, zd91, zbd_s, zrd_s (by rw [zKm91]; show ow < 5751; omega) (by decide), zbd_s, hWm.1, if_pos (nI_le (Nat.le_refl _) (by omega)), zbd_s, zd91, zbd_s, zwr_s (by rw [zKm91]; show to < 5751; omega) (by decide), zbd_s, j1, zbd_s]
    exact v2
  | succ d ih =>
    intro i f J hi hf hWm h93 h113 hc
    obtain ⟨f, rfl⟩ : ∃ g, f = g + 1 := ⟨f - 1, by omega⟩
    have hiW : i < tn W := by omega
    have h0 := hW0 i hiW
    have hN3 : tN3 W := fun j hj => by rw [hW0 j hj]; decide
    have hsq := sqO_n3 hW hN3 hiW
    obtain ⟨a1, a2, a3, -⟩ := hW.2.1 i hiW
    have a3 := a3 h0
    have hff : zFF W W (fun _ _ => (-1 : Int32)) J 0 (fun _ => 0) (fun _ => 0) (fun _ => 0) := fun g hg => Or.inl ⟨fun p hp h => absurd (hW0 p hp) h, rfl, h113 g hg⟩
    have hap : zAp1 W W := fun p hp h => absurd (hW0 p hp) h
    have hwd : f_X7_widthOf F zKm J RM 89 (nI ow) (nI i) = some (nI (tr W i)) := by
      have := X7_widthOf (F := F) hRM hF (show ow + 97 ≤ 5751 by omega) hW hW hWm hiW h93 hff hap
      rw [this]
      unfold wdt
      simp only [hsq]
    have e113 : ∀ (J1 : zI) (x4 : Int32), f_X7_builds_113 F zKm RM 89 (f_X7_builds_15 F zKm RM 89 f) (F - 1) J1 (nI ow) x2 (nI to) x4 (nI i) (nI (ts W i)) (nI (tg W i)) 0 1 1 = f_X7_builds_15 F zKm RM 89 f J1 (nI ow) x2 (nI to) x4 (nI (i + 1)) := fun J1 x4 => by
      obtain ⟨y, hy⟩ : ∃ y, F - 1 = y + 1 := ⟨F - 2, by omega⟩
      rw [hy]
      show g_X7_builds_113 F zKm RM 89 _ _ J1 (nI ow) x2 (nI to) x4 (nI i) (nI (ts W i)) (nI (tg W i)) 0 1 1 = _
      unfold g_X7_builds_113
      rw [if_pos (by decide), nI_1]
    have h113' : f_X7_builds_113 F zKm RM 89 (f_X7_builds_15 F zKm RM 89 f) F J (nI ow) x2 (nI to) (nI i) (nI i) (nI (ts W i)) (nI (tg W i)) 0 1 0 = f_X7_builds_227 F zKm RM 89 (f_X7_builds_15 F zKm RM 89 f) (f_X7_builds_113 F zKm RM 89 (f_X7_builds_15 F zKm RM 89 f) (F - 1)) J (nI ow) x2 (nI to) (nI i) (nI i) (nI (ts W i)) (nI (tg W i)) 0 1 0 (some 89) (nI to) (nI i) (nI 0) (nI (tg W i)) := by
      obtain ⟨Y, hY⟩ : ∃ Y, F = Y + 1 := ⟨F - 1, by omega⟩
      rw [hY]
      show g_X7_builds_113 (Y + 1) zKm RM 89 _ (f_X7_builds_113 (Y + 1) zKm RM 89 _ Y) J (nI ow) x2 (nI to) (nI i) (nI i) (nI (ts W i)) (nI (tg W i)) 0 1 0 = _
      unfold g_X7_builds_113
      rw [if_neg (by decide), if_pos rfl, if_pos ((ni0 (by omega)).mpr h0)]
      unfold f_X7_builds_205
      rw [if_pos ((ni0 (by omega)).mpr h0)]
      rfl
    have hw : f_X7_writes F zKm J RM 89 (nI to) (nI i) (nI 0) (nI (tg W i)) (nI (tr W i)) = some (zWr J to i 0 (tg W i) (tr W i)) := X7_writes hRM hto (by omega) _ _ _
    have eS : f_X7_builds_15 F zKm RM 89 (f + 1) J (nI ow) x2 (nI to) (nI i) (nI i) = f_X7_builds_15 F zKm RM 89 f (zWr J to i 0 (tg W i) (tr W i)) (nI ow) x2 (nI to) (nI (i + 1)) (nI (i + 1)) := by
      show g_X7_builds_15 F zKm RM 89 (f_X7_builds_15 F zKm RM 89 f) J (nI ow) x2 (nI to) (nI i) (nI i) = _
      unfold g_X7_builds_15
      rw [r0, zbd_s, zd91, zbd_s, zrd_s (by rw [zKm91]; show ow < 5751; omega) (by decide), zbd_s, hWm.1, if_neg (nI_ge (by omega) (by omega)), X7_sort r0 (by omega) hWm hn hiW, zbd_s, X7_number r0 (by omega) hWm hn hiW, zbd_s, if_neg (fun e => by have := (ni1 (by omega)).mp e; omega), if_neg (fun e => by have := (ni3 (by omega)).mp e; omega)]
      unfold f_X7_builds_61
      rw [if_pos rfl]
      unfold f_X7_builds_79 f_X7_builds_110
      rw [nI_1, if_neg (show ¬ ((32 : Int32) < nI (i + 1)) from fun e => by
        have := nI_le (a := i + 1) (b := 32) (by omega) (by decide)
        exact absurd e (Int32.not_lt.mpr this)), if_pos (show (0 : Int32) = 0 from rfl), hwd, zbd_s, if_pos (show nI (tr W i) ≤ (8 : Int32) from nI_le (b := 8) a2 (by decide)), h113']
      unfold f_X7_builds_227 f_X7_builds_237
      rw [hwd, zbd_s, show zdr zKm (some 89) 17 = some 89 from rfl, zbd_s, hw, zbd_s, nI_1]
      exact e113 _ _
    have row : ∀ x, zWr J to i 0 (tg W i) (tr W i) 90 x = if x = to + 3 + 3 * i then nI (tr W i) else if x = to + 2 + 3 * i then nI (tg W i) else if x = to + 1 + 3 * i then nI 0 else J 90 x := fun x => by
      unfold zWr
      rw [zup_row, zup_row, zup_row]
    obtain ⟨J', b1, b2, b3, b4⟩ := ih (i + 1) f (zWr J to i 0 (tg W i) (tr W i)) (by omega) (by omega) (zTm_keep hWm (fun x hx => by rw [row, if_neg (by omega), if_neg (by omega), if_neg (by omega)]) hn) (fun y hy => by rw [zWr_ne (by decide)]; exact h93 y hy) (fun g hg => by rw [zWr_ne (by decide)]; exact h113 g hg) (fun y hy => by
      by_cases e : y = i
      · subst e
        rw [row, row, row, if_neg (by omega), if_neg (by omega), if_pos rfl, if_neg (by omega), if_pos rfl, if_pos rfl, h0]
        exact ⟨rfl, rfl, rfl⟩
      · obtain ⟨c1, c2, c3⟩ := hc y (by omega)
        rw [row, row, row, if_neg (by omega), if_neg (by omega), if_neg (by omega), if_neg (by omega), if_neg (by omega), if_neg (by omega), if_neg (by omega), if_neg (by omega), if_neg (by omega)]
        exact ⟨c1, c2, c3⟩)
    exact ⟨J', eS.trans b1, b2, fun b b1 b2 b4 b5 => by rw [b3 b b1 b2 b4 b5, zWr_ne b1], fun x hx => by rw [b4 x hx, row, if_neg (by omega), if_neg (by omega), if_neg (by omega)]⟩
theorem X7_apply_eq (hRM : zRM RM) (hb : gBl (J 90) 0 S c) (hr : r < 8) (hq : q < 8) (ht : t < 8) (ho : o < 8) (hP : S r = some P) (hB : S q = some B) (hA : S t = some A) : f_X7_apply F zKm J RM 89 (nI r) (nI q) (nI t) (nI o) = (zbd2 (f_X7_matches F zKm J RM 89 (nI (97 * r)) (nI (97 * t))) fun v2 I3 => if v2 = (0 : Int32) then some ((-2 : Int32), I3) else (zbd2 (f_X7_isApplicable F zKm I3 RM 89 (nI (97 * r)) (nI (97 * q)) (nI (97 * t))) fun v6 I7 => if v6 = (0 : Int32) then some ((-2 : Int32), I7) else (zbd2 (f_X7_builds F zKm I7 RM 89 (nI (97 * q)) (nI (97 * t)) (nI 5654)) fun v10 I11 => if v10 = (0 : Int32) then some ((-3 : Int32), I11) else (zbd (f_X7_records F zKm I11 RM 89) fun I14 => zbd2 (f_X7_puts F zKm I14 RM 89 (nI 5654) (nI o)) fun v16 I17 => some (v16, I17))))) := by
  have hR0 : RM 89 0 = some 90 := hRM 89 0 (by decide) (by decide) (by decide)
  unfold f_X7_apply
  rw [X7_reg ht, zbd_s, if_neg (by decide), X7_reg ho, zbd_s, if_neg (by decide)]
  unfold f_X7_apply_23
  rw [show zdr zKm (some 89) 17 = some 89 from rfl, zbd_s, X7_wrong0 hR0 hr hq (gBl_some hb hr hP).2.2 (gBl_some hb hq hB).2.2, zbd_s, if_pos rfl, X7_isEmpty hR0 ht, if_neg (gBl_some hb ht hA).2.2, zbd_s, if_pos rfl]
  unfold f_X7_apply_46 f_X7_apply_48
  rw [if_pos rfl]
  simp only [nl97, nI_mul]
  rfl
theorem g_apply_no (hF : 5000 ≤ F) (hRM : zRM RM) (hb : gBl (J 90) 0 S c) (hh : gHi J H) (hr : r < 8) (hq : q < 8) (ht : t < 8) (ho : o < 8) (hP : S r = some P) (hB : S q = some B) (hA : S t = some A) (hm : mv P A = false) : ∃ J1, f_X7_apply F zKm J RM 89 (nI r) (nI q) (nI t) (nI o) = some (-2, J1) ∧ gBl (J1 90) 0 S c ∧ gHi J1 H := by
  obtain ⟨J1, m1, m2⟩ := g_match' hF hRM hb hr ht hP hA
  refine ⟨J1, ?_, gBl_fm hb m2, gHi_fm hh m2⟩
  rw [X7_apply_eq hRM hb hr hq ht ho hP hB hA, m1, zbd2_s]
  rcases mi_01 P A with ⟨e, -⟩ | ⟨e, e'⟩
  · rw [e, if_pos rfl]
  · rw [hm] at e'; cases e'
theorem g_apply (hF : 5000 ≤ F) (hRM : zRM RM) (hb : gBl (J 90) 0 S c) (hh : gHi J H) (hr : r < 8) (hq : q < 8) (ht : t < 8) (ho : o < 8) (hP : S r = some P) (hB : S q = some B) (hA : S t = some P) (pP : pHF P) (pB : pHF B) : ∃ J1, f_X7_apply F zKm J RM 89 (nI r) (nI q) (nI t) (nI o) = some (nI (qSz B), J1) ∧ gBl (J1 90) 0 (gUp S o (some B)) c ∧ gHi J1 [] := by
  have hR0 : RM 89 0 = some 90 := hRM 89 0 (by decide) (by decide) (by decide)
  have r5 : RM 89 5 = some 92 := hRM 89 5 (by decide) (by decide) (by decide)
  obtain ⟨a1, a2, a3⟩ := gBl_some hb hr hP
  obtain ⟨b1, b2, b3⟩ := gBl_some hb hq hB
  obtain ⟨hs, hW⟩ := a1.2.2.1
  have wP := (gGd_wf a1).1
  have wB := (gGd_wf b1).1
  obtain ⟨f, hf⟩ := mt_self a1
  have hf0 := mt_hf _ _ _ _ _ pP hf
  obtain ⟨J1, m1, m2, m3⟩ := g_match hF hRM hb hr ht hP hA hW
  have em : mi P P = 1 := by unfold mi mv; rw [hf]; rfl
  have h113 : ∀ g, g < 10 → J1 113 g = -1 := fun g hg => by
    rcases m3 f hf g hg with ⟨-, e⟩ | ⟨X, j, e, -⟩
    · exact e
    · rw [hf0] at e; cases e
  have hb1 := gBl_fm hb m2
  have hh1 := gHi_fm hh m2
  have nP : ∀ i, i < tn (tmF P) → ts (tmF P) i = 0 := fun i hi => by rw [q_ts_f]; exact pHF_nd P pP i hi
  have nB : ∀ i, i < tn (tmF B) → ts (tmF B) i = 0 := fun i hi => by rw [q_ts_f]; exact pHF_nd B pB i hi
  obtain ⟨-, t2, -⟩ := gBl_some hb1 hr hP
  obtain ⟨-, u2, -⟩ := gBl_some hb1 hq hB
  obtain ⟨-, s2, -⟩ := gBl_some hb1 ht hA
  have nb := wB.1.2.1
  obtain ⟨v, v1, v2, v3⟩ := appl6 (F := F) hRM (by omega) (show 97 * r + 97 ≤ 5751 by omega) (show 97 * q + 97 ≤ 5751 by omega) wP wB t2 u2 (nI (97 * t)) 10 0 F 1 (by decide) (by omega) (Or.inr rfl)
  have hv : v = 1 := v2.mpr ⟨rfl, fun g _ _ i hi h => absurd (nB i hi) h⟩
  subst hv
  have hzw : ∀ b, b ≠ 92 → zrw J1 92 0 (tn (tmF B)) (fun j => nI (tsp (tmF B) j)) b = J1 b := fun b hb => zrw_ne _ _ _ _ hb
  have hff : zFF (tmF P) (tmF P) (fun _ _ => (-1 : Int32)) (zrw J1 92 0 (tn (tmF B)) (fun j => nI (tsp (tmF B) j))) 0 (fun _ => 0) (fun _ => 0) (fun _ => 0) := fun g hg => Or.inl ⟨fun p hp h => absurd (nP p hp) h, rfl, by rw [hzw 113 (by decide)]; exact h113 g hg⟩
  obtain ⟨w, w1, w2, w3⟩ := appl71 (F := F) hRM (by omega) (show 97 * q + 97 ≤ 5751 by omega) (show 97 * t + 97 ≤ 5751 by omega) wP wP wB (by rw [hzw 90 (by decide)]; exact u2) (by rw [hzw 90 (by decide)]; exact s2) (fun y hy => zrw_in _ _ _ (Nat.zero_le _) hy) hff (fun i hi h => absurd (nB i hi) h) (tn (tmF B)) 0 F (Nat.zero_add _) (by omega)
  have hw : w = 1 := w3.mpr fun x _ hx h => by rw [nB x hx] at h; cases h
  subst hw
  have eAp : f_X7_isApplicable F zKm J1 RM 89 (nI (97 * r)) (nI (97 * q)) (nI (97 * t)) = some (1, zrw J1 92 0 (tn (tmF B)) (fun j => nI (tsp (tmF B) j))) := by
    unfold f_X7_isApplicable
    exact v3.trans w2
  have c1 := X7_counts (F := F) (J := zrw J1 92 0 (tn (tmF B)) (fun j => nI (tsp (tmF B) j))) (by omega) hR0 (show 97 * q + 97 ≤ 5751 by omega) (w := 92) rfl (by decide) wB.1 (tWF_r wB) (by rw [hzw 90 (by decide)]; exact u2)
  have hzw2 : ∀ b, b ≠ 92 → zrw (zrw J1 92 0 (tn (tmF B)) (fun j => nI (tsp (tmF B) j))) 92 0 (tn (tmF B)) (fun j => nI (tsp (tmF B) j)) b = J1 b := fun b hb => by rw [zrw_ne _ _ _ _ hb, zrw_ne _ _ _ _ hb]
  obtain ⟨J2, z1, z2, z3, z4⟩ := gBuild (F := F) (W := tmF B) (ow := 97 * q) (to := 5654) (by omega) hRM (by omega) (by decide) wB nB (nI (97 * t)) (tn (tmF B)) 0 F (zrw (zrw J1 92 0 (tn (tmF B)) (fun j => nI (tsp (tmF B) j))) 92 0 (tn (tmF B)) (fun j => nI (tsp (tmF B) j))) (Nat.zero_add _) (by omega) (by rw [hzw2 90 (by decide)]; exact u2) (fun y hy => zrw_in _ _ _ (Nat.zero_le _) hy) (fun g hg => by rw [hzw2 113 (by decide)]; exact h113 g hg) (fun y hy => absurd hy (Nat.not_lt_zero _))
  have eB : f_X7_builds F zKm (zrw J1 92 0 (tn (tmF B)) (fun j => nI (tsp (tmF B) j))) RM 89 (nI (97 * q)) (nI (97 * t)) (nI 5654) = some (1, J2) := by
    unfold f_X7_builds
    rw [r5, zbd_s, c1, zbd_s]
    exact z1
  have hb2 : gBl (J2 90) 0 S c := gBl_keep hb1 fun x hx => by rw [z4 _ (by omega), hzw2 90 (by decide)]
  have hh2 : gHi J2 H := gHi_keep hh1 (by rw [z3 89 (by decide) (by decide) (by decide) (by decide), hzw2 89 (by decide)]) (fun x h1 h2 => by rw [z4 _ (by omega), hzw2 90 (by decide)])
  obtain ⟨J3, k1, k2, k3⟩ := g_keep hF hRM hb2 hh2 (fr := 5654) (by decide) (by decide) ho b1 z2
  refine ⟨J3, ?_, k2, k3⟩
  rw [X7_apply_eq hRM hb hr hq ht ho hP hB hA, m1, zbd2_s, em, if_neg (by decide), eAp, zbd2_s, if_neg (by decide), eB, zbd2_s, if_neg (by decide)]
  exact k1
end GAP
