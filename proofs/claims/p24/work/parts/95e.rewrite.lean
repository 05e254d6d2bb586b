/-! rewritten() and builds() -/
section ZRW
variable {F : Nat} {K : zK} {R : zR} {RM : zR} {m u w q ow p to n' : Nat} {T U W : Tm} {fj fc fe : Nat → Nat}
/-- what building comes to -/
def BOut (K : zK) (R : zR) (p to n' : Nat) (I J : zI) (cls : Option (Option Nat × Nat × zK × zI × zR)) (ref : Option (Int32 × zI)) : Prop := ∃ (o : Option Nat) (I' J' : zI) (v : Int32), cls = some (o, n', K, I', R) ∧ ref = some (v, J') ∧ (∀ b, b < p → I' b = I b) ∧ (∀ b, b ≠ 90 → b ≠ 92 → b ≠ 94 → b ≠ 95 → J' b = J b) ∧ (∀ x, x < to ∨ to + 97 ≤ x → J' 90 x = J 90 x) ∧ ((o = none ∧ v = 0) ∨ (o = some p ∧ v = 1 ∧ ∃ P, tWF P ∧ zTc K I' R p P ∧ zTm (J' 90) to P))
/-- one round that has appended nodes -/
theorem BOut_step {I I1 J J1 : zI} {cls cls1 : Option (Option Nat × Nat × zK × zI × zR)} {ref ref1 : Option (Int32 × zI)} (hC : zBfC p I I1) (hJ : zBfJ to J J1) (h1 : cls = cls1) (h2 : ref = ref1) (h : BOut K R p to n' I1 J1 cls1 ref1) : BOut K R p to n' I J cls ref := by
  obtain ⟨o, I', J', v, a1, a2, a3, a4, a5, a6⟩ := h
  exact ⟨o, I', J', v, h1.trans a1, h2.trans a2, fun b hb => by rw [a3 b hb, hC b (by omega) (by omega)], fun b b1 b2 b3 b4 => by rw [a4 b b1 b2 b3 b4, hJ.1 b b1], fun x hx => by rw [a5 x hx, hJ.2 x (by omega)], a6⟩
theorem BOut_fail {I I1 J J1 : zI} {cls : Option (Option Nat × Nat × zK × zI × zR)} {ref : Option (Int32 × zI)} (hC : zBfC p I I1) (hJ : zBfJ to J J1) (h1 : cls = some (none, n', K, I1, R)) (h2 : ref = some (0, J1)) : BOut K R p to n' I J cls ref := ⟨none, I1, J1, 0, h1, h2, fun b hb => hC b (by omega) (by omega), fun b b1 _ _ _ => hJ.1 b b1, fun x hx => hJ.2 x (by omega), Or.inl ⟨rfl, rfl⟩⟩
theorem X5_append_args {I : zI} {c hd r : Nat} (k1 : K (p + 1) = (1, 32)) (h0 : R p 0 = some (p + 1)) (hc : I p 3 = nI c) (hc2 : c ≤ 32) (hh : hd < 64) (hr : 8 < r) (hr2 : r < 2 ^ 31) : f_X5_append F K I R p (nI hd) (nI r) = some (0, I) := by
  unfold f_X5_append
  rw [if_neg (nI_pos (by omega)), h0, zbd_s, zdr_s (t := 1) (by rw [k1]), zbd_s, hc, show zln K (p + 1) = nI 32 from by unfold zln; rw [k1]; rfl, nl1, nI_sub (by omega), zo_eq, zbd_s, zo_1 (show ¬ ((0 : Int32) ≤ nI r ∧ nI r ≤ 8) from fun h => nI_ge (a := 8) hr hr2 h.2), zbd_s]
  by_cases hx : (0 : Int32) ≤ nI c ∧ nI c ≤ nI (32 - 1)
  · rw [if_pos hx, if_pos rfl, if_neg (by decide)]
  · rw [if_neg hx, if_neg (by decide)]
theorem build_end (hF : 200 ≤ F) (hRM : zRM RM) {I J : zI} {L : List zNd} (hw : 92 ≤ w) (hwp : w + 4 ≤ p) (hto : to + 97 ≤ 5751) (how : ow + 97 ≤ to) (hW : tWF W) (hU : tWF U) (hWc : zTc K I R w W) (hWm : zTm (J 90) ow W) (kp : K p = (15, 0) ∧ K (p + 1) = (1, 32) ∧ K (p + 2) = (1, 32) ∧ K (p + 3) = (1, 32)) (rp : R p 0 = some (p + 1) ∧ R p 1 = some (p + 2) ∧ R p 2 = some (p + 3)) (hI0 : I (p + 3) 0 = 0) (hPq : zPq I J p to L) (hBk : zBk U L) (hst : stL L = []) {f f' : Nat} (hf : 0 < f) (hf' : 0 < f') (x2 : Int32) : BOut K R p to n' I J (f_X1_rewritten_10 F m f n' K I R (some w) (some p) (nI (tn W))) (f_X7_builds_15 F zKm RM 89 f' J (nI ow) x2 (nI to) (nI L.length) (nI (tn W))) := by
  obtain ⟨f, rfl⟩ : ∃ g, f = g + 1 := ⟨f - 1, by omega⟩
  obtain ⟨f', rfl⟩ : ∃ g, f' = g + 1 := ⟨f' - 1, by omega⟩
  have r0 : RM 89 0 = some 90 := hRM 89 0 (by decide) (by decide) (by decide)
  have hn := hW.1.2.1
  obtain ⟨q1, q2, q4⟩ := hPq
  obtain ⟨P, p1, p2, p3, p4, p5⟩ := tm_of_list hBk.1 hst q1
  have hN : tNc P := fun i hi => by
    rw [p1] at hi
    obtain ⟨a1, a2, a3, a4⟩ := p2 i hi
    obtain ⟨b1, b2, b3, b4, -⟩ := (hBk.2 i _ (vAt_some hi)).1
    rw [a1, a2, a3]
    exact ⟨b1, b2, b3, b4⟩
  have hk : zTk K I R p P := ⟨kp.1, kp.2.1, kp.2.2.1, kp.2.2.2, rp.1, rp.2.1, rp.2.2, by rw [q2, p1], fun i hi => by
    rw [p1] at hi
    obtain ⟨a1, a2, a3, -⟩ := p2 i hi
    unfold tcode
    rw [a1, a2, a3]
    exact (q4 i _ (vAt_some hi)).1⟩
  obtain ⟨I2, z1, z2, z3⟩ := X5_settle (F := F) (by omega) p3 hN hk hI0
  obtain ⟨D, d1, d2, d3⟩ := depth_chk (F := F) z2 p3 (by omega)
  have eC : f_X1_rewritten_10 F m (f + 1) n' K I R (some w) (some p) (nI (tn W)) = if (7 : Int32) < nI D then some (none, n', K, I2, R) else some (some p, n', K, I2, R) := by
    show g_X1_rewritten_10 F m _ n' K I R (some w) (some p) (nI (tn W)) = _
    unfold g_X1_rewritten_10
    rw [zdr_s (t := 15) (by rw [hWc.1]), zbd_s, hWc.2.2.2.2.2.2.2.1, if_pos (nI_le (Nat.le_refl _) (by omega)), zdr_s (t := 15) (by rw [kp.1]), zbd_s, z1, zbd_s, d1, zbd_s]
  have hm1 : zTm (zup J 90 to (nI L.length) 90) to P := by
    refine ⟨by rw [zup_self, p1], fun i hi => ?_⟩
    rw [p1] at hi
    obtain ⟨a1, a2, a3, -⟩ := p2 i hi
    obtain ⟨-, b1, b2, b3⟩ := q4 i _ (vAt_some hi)
    rw [zup_self_ne _ _ _ (by omega), zup_self_ne _ _ _ (by omega), zup_self_ne _ _ _ (by omega), a1, a2, a3]
    exact ⟨b1, b2, b3⟩
  obtain ⟨J', j1, j2, j3⟩ := X7_levels (F := F) (J := zup J 90 to (nI L.length)) (by omega) r0 (hRM 89 5 (by decide) (by decide) (by decide)) (hRM 89 7 (by decide) (by decide) (by decide)) (hRM 89 8 (by decide) (by decide) (by decide)) hto p3 (fun i hi => by have := (hN i hi).2.1; omega) hm1
  obtain ⟨v, v1, v2, v3⟩ := builds271 (F := F) hRM p3 (fun j hj => (j3 j hj).2) (tn P) 0 F 1 (by omega) (by have := p3.2.1; omega) (Or.inr rfl)
  have eJ : f_X7_builds_15 F zKm RM 89 (f' + 1) J (nI ow) x2 (nI to) (nI L.length) (nI (tn W)) = some (v, J') := by
    show g_X7_builds_15 F zKm RM 89 _ J (nI ow) x2 (nI to) (nI L.length) (nI (tn W)) = _
    unfold g_X7_builds_15
    rw [r0, zbd_s, zd91, zbd_s, zrd_s (by rw [zKm91]; show ow < 5751; omega) (by decide), zbd_s, hWm.1, if_pos (nI_le (Nat.le_refl _) (by omega)), zbd_s, zd91, zbd_s, zwr_s (by rw [zKm91]; show to < 5751; omega) (by decide), zbd_s, j1, zbd_s, ← p1]
    exact v2
  have fI : ∀ b, b < p → I2 b = I b := fun b hb => z3 b (by omega) (by omega)
  have fJ : ∀ b, b ≠ 90 → b ≠ 92 → b ≠ 94 → b ≠ 95 → J' b = J b := fun b b1 b2 b3 b4 => by rw [j2 b b2 b3 b4, zup_ne _ _ _ b1]
  have fJ91 : ∀ x, x < to ∨ to + 97 ≤ x → J' 90 x = J 90 x := fun x hx => by rw [j2 90 (by decide) (by decide) (by decide), zup_self_ne _ _ _ (by omega)]
  by_cases h7 : 7 < D
  · have hv : v = 0 := v1.resolve_right (fun e => by
      obtain ⟨y, y1, y2⟩ := d3.mp h7
      have := (v3.mp e).2 y (Nat.zero_le _) y1
      omega)
    exact ⟨none, I2, J', 0, by rw [eC, if_pos (show (7 : Int32) < nI D from nI_lt (a := 7) h7 (by omega))], by rw [eJ, hv], fI, fJ, fJ91, Or.inl ⟨rfl, rfl⟩⟩
  · have hdp : ∀ y, y < tn P → tdp P y ≤ 7 := fun y hy => by
      rcases Nat.lt_or_ge 7 (tdp P y) with h | h
      · exact absurd (d3.mpr ⟨y, hy, h⟩) h7
      · exact h
    have hv : v = 1 := v3.mpr ⟨rfl, fun y _ hy => hdp y hy⟩
    refine ⟨some p, I2, J', 1, by rw [eC, if_neg (show ¬ ((7 : Int32) < nI D) from nI_nlt (a := 7) (by omega) (by decide))], by rw [eJ, hv], fI, fJ, fJ91, Or.inr ⟨rfl, rfl, P, ⟨p3, fun i hi => ?_, fun i j hi hj h1 h2 h3 => ?_, p4, p5⟩, z2, ?_⟩⟩
    · have hd := hdp i hi
      rw [p1] at hi
      obtain ⟨a1, a2, a3, a4⟩ := p2 i hi
      obtain ⟨b1, b2, b3, b4, b5, b6⟩ := (hBk.2 i _ (vAt_some hi)).1
      rw [a1, a2, a3]
      exact ⟨b1, b2, b3, b4, b5, b6, hd⟩
    · rw [p1] at hi hj
      obtain ⟨a1, a2, -⟩ := p2 i hi
      obtain ⟨b1, b2, -⟩ := p2 j hj
      obtain ⟨y, y1, y2, y3⟩ := (hBk.2 i _ (vAt_some hi)).2 (by rw [← a1]; exact h1)
      obtain ⟨z, z1, z2, z3⟩ := (hBk.2 j _ (vAt_some hj)).2 (by rw [← b1]; exact h2)
      rw [a1, b1, ← y2, ← z2]
      exact hU.2.2.1 y z y1 z1 (by rw [y2, ← a1]; exact h1) (by rw [z2, ← b1]; exact h2) (by rw [y3, z3, ← a2, ← b2]; exact h3)
    · rw [j2 90 (by decide) (by decide) (by decide)]
      exact hm1
/-- a symbol or a head: one node with the arguments that come -/
theorem build_head (hF : 200 ≤ F) (hRM : zRM RM) {I J : zI} {L : List zNd} {i s sy g d : Nat} {rest ch : List (Nat × Bool)} (hto : to + 97 ≤ 5751) (hqt : q + 97 ≤ to) (kp : K (p + 1) = (1, 32)) (rp : R p 0 = some (p + 1)) (hPq : zPq I J p to L) (hBk : zBk U L) (hst : stL L = (d, false) :: rest) (hch1 : ∀ x, x ∈ ch → x.1 = d + 1) (hch2 : oneS ch) (hsy : sy = 0 ∨ sy = 2) (hg : sy * 16 + g < 64) (hvo : ch.length ≤ 8 → vOk (sy, g, ch)) (hh : sy ≠ 0 → ∃ y, y < tn U ∧ ts U y = sy ∧ tg U y = g) :
    (L.length < 32 ∧ ch.length ≤ 8 ∧ f_X5_append F K I R p (nI (sy * 16 + g)) (nI ch.length) = some (1, zAp I p L.length sy g ch.length) ∧ zPq (zAp I p L.length sy g ch.length) (zWr J to L.length sy g ch.length) p to (L ++ [(sy, g, ch)]) ∧ zBk U (L ++ [(sy, g, ch)]) ∧ stL (L ++ [(sy, g, ch)]) = ch ++ rest) ∨ ((L.length = 32 ∨ 8 < ch.length) ∧ (ch.length < 2 ^ 31 → f_X5_append F K I R p (nI (sy * 16 + g)) (nI ch.length) = some (0, I))) := by
  by_cases hl : L.length = 32
  · exact Or.inr ⟨Or.inl hl, fun _ => X5_append_full kp rp (by rw [hPq.2.1, hl]) hg _⟩
  · have hl2 := hPq.1
    by_cases hc : ch.length ≤ 8
    · refine Or.inl ⟨by omega, hc, ?_, zPq_snoc hPq (by omega) rfl, zBk_snoc hBk hst ⟨⟨fun e => (by have : sy = 3 := e; omega), fun e => (by cases e)⟩, hch1, hch2⟩ (hvo hc) hh, by rw [stL_snoc, hst]; rfl⟩
      rw [X5_append_ok kp rp hPq.2.1 (by omega) hg hc]
      unfold zAp
      rw [show (sy * 16 + g) * 16 + ch.length = sy * 256 + g * 16 + ch.length by omega]
    · exact Or.inr ⟨Or.inr (by omega), fun h => X5_append_args kp rp hPq.2.1 hl2 hg (by omega) h⟩
theorem build_all (hF : 200 ≤ F) (hRM : zRM RM) (hm1 : (K m).1 = 11) (hM : zMk K R m) (hu1 : R m 1 = some u) (hu : 92 ≤ u) (hup : u + 4 ≤ p) (hw : 92 ≤ w) (hwp : w + 4 ≤ p) (hto : to + 97 ≤ 5751) (hqt : q + 97 ≤ to) (how : ow + 97 ≤ to) (hT : tWF T) (hU : tWF U) (hW : tWF W) (kp : K p = (15, 0) ∧ K (p + 1) = (1, 32) ∧ K (p + 2) = (1, 32) ∧ K (p + 3) = (1, 32)) (rp : R p 0 = some (p + 1) ∧ R p 1 = some (p + 2) ∧ R p 2 = some (p + 3)) (hap : zAp1 T W) (hap2 : zAp2 U W fj fe) : ∀ (d i s f f' : Nat) (I J : zI) (L : List zNd), i + d = tn W → d < f → d < f' → zTc K I R u U → zTc K I R w W → zTm (J 90) q U → zTm (J 90) ow W → zFF T U I J m fj fc fe → (∀ y, y < tn W → J 92 y = nI (tsp W y)) → I (p + 3) 0 = 0 → zPq I J p to L → zBk U L → stL L = LF (labW W U fj fe) (tsp W) s i → wk (tsp W) s i = tn W →
    BOut K R p to n' I J (f_X1_rewritten_10 F m f n' K I R (some w) (some p) (nI i)) (f_X7_builds_15 F zKm RM 89 f' J (nI ow) (nI q) (nI to) (nI L.length) (nI i)) := by
  have r0 : RM 89 0 = some 90 := hRM 89 0 (by decide) (by decide) (by decide)
  have r30 : RM 89 30 = some 112 := hRM 89 30 (by decide) (by decide) (by decide)
  have r31 : RM 89 31 = some 113 := hRM 89 31 (by decide) (by decide) (by decide)
  have k113 : zKm 112 = (1, 10) := rfl
  have k114 : zKm 113 = (1, 10) := rfl
  have hm42 : m = 41 ∨ m = 56 := hM.1
  have hM0 := hM
  obtain ⟨-, -, ⟨k51, k52, k53, k54, k55, k56⟩, r2, r3, r4, r5, r6, r7⟩ := hM
  have hn := hW.1.2.1
  have hnU := hU.1.2.1
  intro d
  induction d with
  | zero =>
    intro i s f f' I J L hi hf hf' hUc hWc hUm hWm hff h93 hI0 hPq hBk hst hwk
    have hs : s = 0 := by have := wk_ge hW.1 s i; omega
    subst hs
    obtain rfl : i = tn W := by omega
    exact build_end hF hRM hw hwp hto how hW hU hWc hWm kp rp hI0 hPq hBk hst hf hf' _
  | succ d ih =>
    intro i s f f' I J L hi hf hf' hUc hWc hUm hWm hff h93 hI0 hPq hBk hst hwk
    obtain ⟨f, rfl⟩ : ∃ g, f = g + 1 := ⟨f - 1, by omega⟩
    obtain ⟨f', rfl⟩ : ∃ g, f' = g + 1 := ⟨f' - 1, by omega⟩
    have hiW : i < tn W := by omega
    have hs : s ≠ 0 := fun e => by rw [e] at hwk; have : i = tn W := hwk; omega
    obtain ⟨s, rfl⟩ : ∃ g, s = g + 1 := ⟨s - 1, by omega⟩
    have he := tc_end hW.1 hiW
    obtain ⟨a1, a2, a3, a4, a5, a6, a7⟩ := hW.2.1 i hiW
    have hok : zFok W U fj fc fe := fun x hx h0 => (zFF_at hff hT hW hx h0 (hap x hx h0)).2.2.2.2.2.2.2
    have hst' : stL L = labW W U fj fe i ++ LF (labW W U fj fe) (tsp W) s (i + tsp W i) := hst
    have hl32 := hPq.1
    have t13 : L.length < 2 ^ 31 := by omega
    -- both sides' bases
    have w15 : (K w).1 = 15 := by rw [hWc.1]
    have p15 : (K p).1 = 15 := by rw [kp.1]
    have haw : f_X1_argumentsWhenFilled F K I R m (some w) (nI i) = some (nI (wdt W fe i)) := X1_aw hM0 hT hW hWc hiW hF hff hap
    have hwd : f_X7_widthOf F zKm J RM 89 (nI ow) (nI i) = some (nI (wdt W fe i)) := X7_widthOf hRM hF (by omega) hT hW hWm hiW h93 hff hap
    have hlen : (LF (labW W U fj fe) (tsp W) (tr W i) (i + 1)).length = wdt W fe i := LFW_wdt hW hiW
    have hwl : wdt W fe i < 100 := by
      unfold wdt
      cases hsq : sqO W i with
      | none => simp only; omega
      | some g =>
        simp only
        obtain ⟨g1, g2⟩ := sqO_lt hsq
        obtain ⟨-, -, c3⟩ := tc_lt hW.1 hiW g1
        obtain ⟨q', x, s1, s2, -⟩ := (hok _ c3 (by omega)).2.2 g2
        have := (hU.2.1 q' s1).2.1
        omega
    -- going on after some nodes
    have goOn : ∀ (I1 J1 : zI) (L1 : List zNd) (s1 : Nat), zBfC p I I1 → zBfJ to J J1 → zPq I1 J1 p to L1 → zBk U L1 → stL L1 = LF (labW W U fj fe) (tsp W) s1 (i + 1) → wk (tsp W) s1 (i + 1) = tn W → BOut K R p to n' I1 J1 (f_X1_rewritten_10 F m f n' K I1 R (some w) (some p) (nI (i + 1))) (f_X7_builds_15 F zKm RM 89 f' J1 (nI ow) (nI q) (nI to) (nI L1.length) (nI (i + 1))) := fun I1 J1 L1 s1 fC fJ g1 g2 g3 g4 => by
      refine ih (i + 1) s1 f f' I1 J1 L1 (by omega) (by omega) (by omega) (zTc_keep hUc (fun b b1 b2 => ⟨rfl, fC b (by omega) (by omega), rfl⟩)) (zTc_keep hWc (fun b b1 b2 => ⟨rfl, fC b (by omega) (by omega), rfl⟩)) (zTm_keep hUm (fun z hz => fJ.2 _ (Or.inl (by omega))) hnU) (zTm_keep hWm (fun z hz => fJ.2 _ (Or.inl (by omega))) hn) (fun g hg => ?_) (fun y hy => by rw [fJ.1 92 (by decide)]; exact h93 y hy) (by rw [fC (p + 3) (by omega) (by omega)]; exact hI0) g1 g2 g3 g4
      have := hff g hg
      rw [fC (m + 11) (by omega) (by omega), fC (m + 12) (by omega) (by omega), fC (m + 13) (by omega) (by omega), fC (m + 14) (by omega) (by omega), fJ.1 112 (by decide), fJ.1 113 (by decide), fJ.1 114 (by decide)]
      exact this
    have e113 : ∀ (J1 : zI) (x4 : Int32), f_X7_builds_113 F zKm RM 89 (f_X7_builds_15 F zKm RM 89 f') (F - 1) J1 (nI ow) (nI q) (nI to) x4 (nI i) (nI (ts W i)) (nI (tg W i)) 0 1 1 = f_X7_builds_15 F zKm RM 89 f' J1 (nI ow) (nI q) (nI to) x4 (nI (i + 1)) := fun J1 x4 => by
      obtain ⟨y, hy⟩ : ∃ y, F - 1 = y + 1 := ⟨F - 2, by omega⟩
      rw [hy]
      show g_X7_builds_113 F zKm RM 89 _ _ J1 (nI ow) (nI q) (nI to) x4 (nI i) (nI (ts W i)) (nI (tg W i)) 0 1 1 = _
      unfold g_X7_builds_113
      rw [if_pos (by decide), nI_1]
    by_cases hfill : ts W i = 1 ∨ ts W i = 3
    · -- a term hole, or a sequence hole
      have h0 : ts W i ≠ 0 := by omega
      have h2 : ts W i ≠ 2 := by omega
      have hg9 := a4 h0
      have hat := zFF_at hff hT hW hiW h0 (hap i hiW h0)
      have htf := hat.2.2.2.2.2.2.2
      obtain ⟨hjc, -⟩ := tFill_le hU.1 (show ts W i = 1 ∨ ts W i = 2 ∨ ts W i = 3 by omega) htf
      have hr0 : tr W i = 0 := a5 hfill
      have hwk1 : wk (tsp W) s (i + 1) = tn W := by
        have : i + tsp W i = i + 1 := by rw [← he.1, hr0]; rfl
        rw [← this]; exact hwk
      have hsp1 : i + tsp W i = i + 1 := by rw [← he.1, hr0]; rfl
      rw [hsp1] at hst'
      have eC : f_X1_rewritten_10 F m (f + 1) n' K I R (some w) (some p) (nI i) = (zbd2 (f_X5_appendNodes_3 F K R p F I (some u) (nI (fj (tg W i))) (nI (fc (tg W i))) (nI (fj (tg W i) + 0))) fun v40 I41 => f_X1_rewritten_130 F m (f_X1_rewritten_10 F m f) n' K I41 R (some w) (some p) (nI i) v40) := by
        show g_X1_rewritten_10 F m (f_X1_rewritten_10 F m f) n' K I R (some w) (some p) (nI i) = _
        unfold g_X1_rewritten_10
        rw [zdr_s w15, zbd_s, hWc.2.2.2.2.2.2.2.1, if_neg (nI_ge (by omega) (by omega)), X5_numberOf hWc hW hiW, zbd_s, X5_sortOf hWc hW hiW, zbd_s, if_neg (fun e => h0 ((ni0 (by omega)).mp e)), zo_0 (show (0 : Int32) ≤ nI (tg W i) ∧ nI (tg W i) ≤ 9 from ⟨nI_pos' (by omega), nI_le (b := 9) hg9 (by decide)⟩), zbd_s, if_pos rfl, zbd_s, if_neg (fun e => h2 ((ni2 (by omega)).mp e)), if_pos hm1, hu1, zbd_s, r5, zbd_s, zdr_s (t := 1) (by rw [k54]), zbd_s, zrd_s (by rw [k54]; show tg W i < 10; omega) (by rw [k54]; decide), zbd_s, hat.2.1, r6, zbd_s, zdr_s (t := 1) (by rw [k55]), zbd_s, zrd_s (by rw [k55]; show tg W i < 10; omega) (by rw [k55]; decide), zbd_s, hat.2.2.1, zdr_s p15, zbd_s]
        rfl
      have eJ : f_X7_builds_15 F zKm RM 89 (f' + 1) J (nI ow) (nI q) (nI to) (nI L.length) (nI i) = if (32 : Int32) < nI (L.length + fc (tg W i)) then some (0, J) else f_X7_builds_113 F zKm RM 89 (f_X7_builds_15 F zKm RM 89 f') F J (nI ow) (nI q) (nI to) (nI L.length) (nI i) (nI (ts W i)) (nI (tg W i)) 1 (nI (fc (tg W i))) (nI 0) := by
        have e56 : f_X7_builds_56 F zKm RM 89 (f_X7_builds_15 F zKm RM 89 f') J (nI ow) (nI q) (nI to) (nI L.length) (nI i) (nI (ts W i)) (nI (tg W i)) = if (32 : Int32) < nI (L.length + fc (tg W i)) then some (0, J) else f_X7_builds_113 F zKm RM 89 (f_X7_builds_15 F zKm RM 89 f') F J (nI ow) (nI q) (nI to) (nI L.length) (nI i) (nI (ts W i)) (nI (tg W i)) 1 (nI (fc (tg W i))) (nI 0) := by
          unfold f_X7_builds_56 f_X7_builds_61
          rw [if_neg (by decide), r31, zbd_s, zdr_s (t := 1) (by rw [k114]), zbd_s, zrd_s (by rw [k114]; show tg W i < 10; omega) (by rw [k114]; decide), zbd_s, hat.2.2.2.2.2.1]
          unfold f_X7_builds_79 f_X7_builds_110
          rw [nI_add, if_neg (show ¬ ((1 : Int32) = 0) by decide)]
          rfl
        show g_X7_builds_15 F zKm RM 89 (f_X7_builds_15 F zKm RM 89 f') J (nI ow) (nI q) (nI to) (nI L.length) (nI i) = _
        unfold g_X7_builds_15
        rw [r0, zbd_s, zd91, zbd_s, zrd_s (by rw [zKm91]; show ow < 5751; omega) (by decide), zbd_s, hWm.1, if_neg (nI_ge (by omega) (by omega)), X7_sort r0 (by omega) hWm hn hiW, zbd_s, X7_number r0 (by omega) hWm hn hiW, zbd_s, e56]
        rcases hfill with h | h
        · rw [if_pos ((ni1 (by omega)).mpr h)]
        · rw [if_neg (fun e => by have := (ni1 (by omega)).mp e; omega), if_pos ((ni3 (by omega)).mpr h)]
      by_cases hfit : L.length + fc (tg W i) ≤ 32
      · rw [if_neg (show ¬ ((32 : Int32) < nI (L.length + fc (tg W i))) from nI_nlt (a := 32) (by omega) (by decide))] at eJ
        -- the labels as those of the fill
        have hlab : ∃ s0, labW W U fj fe i = LF (labU U (tdp W i) (fj (tg W i))) (tsp U) s0 (fj (tg W i)) ∧ wk (tsp U) s0 (fj (tg W i)) = fj (tg W i) + fc (tg W i) ∧ ∀ k, k < s0 → tdp U (fj (tg W i)) ≤ tdp W i + tdp U (wk (tsp U) k (fj (tg W i))) := by
          rcases hfill with h | h
          · obtain ⟨b1, b2, b3, b4⟩ := htf.1 h
            refine ⟨1, ?_, ?_, fun k hk => ?_⟩
            · unfold labW
              rw [if_neg (by omega)]
              show [(tdp W i, false)] = [(tdp W i + tdp U (fj (tg W i)) - tdp U (fj (tg W i)), decide (ts U (fj (tg W i)) = 3))]
              rw [Nat.add_sub_cancel, decide_eq_false b2]
            · show fj (tg W i) + tsp U (fj (tg W i)) = _
              rw [b3]
            · obtain rfl : k = 0 := by omega
              show tdp U (fj (tg W i)) ≤ tdp W i + tdp U (fj (tg W i))
              omega
          · obtain ⟨q', x', s1, s2, s3, s4⟩ := htf.2.2 h
            refine ⟨fe (tg W i), ?_, ?_, fun k hk => ?_⟩
            · unfold labW
              rw [if_pos h]
            · rw [s4]
              show wk (tsp U) (fe (tg W i)) (fj (tg W i)) = wk (tsp U) (x' + fe (tg W i)) (q' + 1)
              rw [wk_add, s3]
            · have e1 : wk (tsp U) k (fj (tg W i)) = tc U q' (x' + k) := by rw [s3]; exact (wk_add _ _ _ _).symm
              rw [e1, hU.1.2.2.2.2.2.2 q' s1 (x' + k) (by omega), s3, hU.1.2.2.2.2.2.2 q' s1 x' (by omega)]
              omega
        obtain ⟨s0, l1, l2, l3⟩ := hlab
        obtain ⟨I', J', L', b1, b2, b3, b4, b5, b6, b7, b8⟩ := copy_both (F := F) (K := K) (R := R) hF hRM hU hu hup hqt hto kp.2.1 rp.1 (h := tg W i) (d0 := tdp W i) (show tg W i < 10 by omega) hjc (rest := LF (labW W U fj fe) (tsp W) s (i + 1)) (f_X7_builds_15 F zKm RM 89 f') (nI ow) (nI i) (nI (ts W i)) (fc (tg W i)) 0 F F s0 I J L (Nat.zero_add _) (by omega) (by omega) hUc hUm hat.2.2.2.2.1 hPq hBk hfit (by rw [hst', l1]; rfl) l2 l3
        refine BOut_step b6 b7 ?_ ?_ (goOn I' J' L' s b6 b7 b3 b4 b5 hwk1)
        · rw [eC, b1, zbd2_s]
          unfold f_X1_rewritten_130
          rw [if_neg (by decide), nI_1]
        · rw [eJ, b2, nI_1]
      · rw [if_pos (show (32 : Int32) < nI (L.length + fc (tg W i)) from nI_lt (a := 32) (by omega) (by omega))] at eJ
        obtain ⟨I', b1, b2⟩ := copy_full (F := F) (K := K) (R := R) hU hu hup kp.2.1 rp.1 hjc (fc (tg W i)) 0 F L.length I (Nat.zero_add _) (by omega) hUc hPq.2.1 hl32 (by omega)
        refine BOut_fail b2 (J1 := J) ⟨fun _ _ => rfl, fun _ _ => rfl⟩ ?_ eJ
        rw [eC, b1, zbd2_s]
        unfold f_X1_rewritten_130
        rw [if_pos rfl]
    · -- a symbol, or a head hole
      have hs02 : ts W i = 0 ∨ ts W i = 2 := by omega
      have hlab : labW W U fj fe i = [(tdp W i, false)] := by unfold labW; rw [if_neg (by omega)]
      rw [hlab] at hst'
      have hst2 : stL L = (tdp W i, false) :: LF (labW W U fj fe) (tsp W) s (i + tsp W i) := hst'
      -- the head that comes
      have hhead : ∃ sy g : Nat, (sy = 0 ∨ sy = 2) ∧ sy * 16 + g < 64 ∧ (wdt W fe i ≤ 8 → vOk (sy, g, LF (labW W U fj fe) (tsp W) (tr W i) (i + 1))) ∧ (sy ≠ 0 → ∃ y, y < tn U ∧ ts U y = sy ∧ tg U y = g) ∧ f_X1_rewritten_10 F m (f + 1) n' K I R (some w) (some p) (nI i) = (zbd2 (f_X5_append F K I R p (nI (sy * 16 + g)) (nI (wdt W fe i))) fun v71 I72 => f_X1_rewritten_130 F m (f_X1_rewritten_10 F m f) n' K I72 R (some w) (some p) (nI i) v71) ∧ f_X7_builds_15 F zKm RM 89 (f' + 1) J (nI ow) (nI q) (nI to) (nI L.length) (nI i) = (if (32 : Int32) < nI (L.length + 1) then some (0, J) else if nI (wdt W fe i) ≤ (8 : Int32) then (zbd (f_X7_writes F zKm J RM 89 (nI to) (nI L.length) (nI sy) (nI g) (nI (wdt W fe i))) fun I15 => f_X7_builds_15 F zKm RM 89 f' I15 (nI ow) (nI q) (nI to) (nI (L.length + 1)) (nI (i + 1))) else some (0, J)) := by
        have e79 : ∀ (sy g : Nat), (∀ x9, f_X7_builds_113 F zKm RM 89 (f_X7_builds_15 F zKm RM 89 f') F J (nI ow) (nI q) (nI to) (nI L.length) (nI i) (nI (ts W i)) (nI (tg W i)) 0 1 x9 = f_X7_builds_113 F zKm RM 89 (f_X7_builds_15 F zKm RM 89 f') F J (nI ow) (nI q) (nI to) (nI L.length) (nI i) (nI (ts W i)) (nI (tg W i)) 0 1 x9) → f_X7_builds_113 F zKm RM 89 (f_X7_builds_15 F zKm RM 89 f') F J (nI ow) (nI q) (nI to) (nI L.length) (nI i) (nI (ts W i)) (nI (tg W i)) 0 1 0 = f_X7_builds_227 F zKm RM 89 (f_X7_builds_15 F zKm RM 89 f') (f_X7_builds_113 F zKm RM 89 (f_X7_builds_15 F zKm RM 89 f') (F - 1)) J (nI ow) (nI q) (nI to) (nI L.length) (nI i) (nI (ts W i)) (nI (tg W i)) 0 1 0 (some 89) (nI to) (nI L.length) (nI sy) (nI g) → f_X7_builds_15 F zKm RM 89 (f' + 1) J (nI ow) (nI q) (nI to) (nI L.length) (nI i) = (if (32 : Int32) < nI (L.length + 1) then some (0, J) else if nI (wdt W fe i) ≤ (8 : Int32) then (zbd (f_X7_writes F zKm J RM 89 (nI to) (nI L.length) (nI sy) (nI g) (nI (wdt W fe i))) fun I15 => f_X7_builds_15 F zKm RM 89 f' I15 (nI ow) (nI q) (nI to) (nI (L.length + 1)) (nI (i + 1))) else some (0, J)) := fun sy g _ h113 => by
          show g_X7_builds_15 F zKm RM 89 (f_X7_builds_15 F zKm RM 89 f') J (nI ow) (nI q) (nI to) (nI L.length) (nI i) = _
          unfold g_X7_builds_15
          rw [r0, zbd_s, zd91, zbd_s, zrd_s (by rw [zKm91]; show ow < 5751; omega) (by decide), zbd_s, hWm.1, if_neg (nI_ge (by omega) (by omega)), X7_sort r0 (by omega) hWm hn hiW, zbd_s, X7_number r0 (by omega) hWm hn hiW, zbd_s, if_neg (fun e => hfill (Or.inl ((ni1 (by omega)).mp e))), if_neg (fun e => hfill (Or.inr ((ni3 (by omega)).mp e)))]
          unfold f_X7_builds_61
          rw [if_pos rfl]
          unfold f_X7_builds_79 f_X7_builds_110
          rw [nI_1, if_pos (show (0 : Int32) = 0 from rfl), hwd, zbd_s, h113]
          unfold f_X7_builds_227 f_X7_builds_237
          rw [hwd, zbd_s, show zdr zKm (some 89) 17 = some 89 from rfl, zbd_s]
          have e237 : ∀ I15 : zI, f_X7_builds_113 F zKm RM 89 (f_X7_builds_15 F zKm RM 89 f') (F - 1) I15 (nI ow) (nI q) (nI to) (nI L.length + 1) (nI i) (nI (ts W i)) (nI (tg W i)) 0 1 (0 + 1) = f_X7_builds_15 F zKm RM 89 f' I15 (nI ow) (nI q) (nI to) (nI (L.length + 1)) (nI (i + 1)) := fun I15 => by
            rw [nI_1]
            exact e113 I15 _
          simp only [e237]
        obtain ⟨Y, hY⟩ : ∃ Y, F = Y + 1 := ⟨F - 1, by omega⟩
        rcases hs02 with h0 | h2
        · refine ⟨0, tg W i, Or.inl rfl, by have := a3 h0; omega, fun hc => ⟨Nat.zero_le _, by rw [hlen]; exact hc, fun _ => a3 h0, fun e => absurd rfl e, fun e => (by rcases e with e | e <;> cases e), fun e => (by cases e)⟩, fun e => absurd rfl e, ?_, e79 0 (tg W i) (fun _ => rfl) ?_⟩
          · show g_X1_rewritten_10 F m (f_X1_rewritten_10 F m f) n' K I R (some w) (some p) (nI i) = _
            unfold g_X1_rewritten_10
            rw [zdr_s w15, zbd_s, hWc.2.2.2.2.2.2.2.1, if_neg (nI_ge (by omega) (by omega)), X5_numberOf hWc hW hiW, zbd_s, X5_sortOf hWc hW hiW, zbd_s, if_pos ((ni0 (by omega)).mpr h0), X5_headOf hWc hW hiW, zbd_s, if_pos hm1, haw, zbd_s, zdr_s p15, zbd_s, h0]
          · rw [hY]
            show g_X7_builds_113 (Y + 1) zKm RM 89 _ (f_X7_builds_113 (Y + 1) zKm RM 89 _ Y) J (nI ow) (nI q) (nI to) (nI L.length) (nI i) (nI (ts W i)) (nI (tg W i)) 0 1 0 = _
            unfold g_X7_builds_113
            rw [if_neg (by decide), if_pos rfl, if_pos ((ni0 (by omega)).mpr h0)]
            unfold f_X7_builds_205
            rw [if_pos ((ni0 (by omega)).mpr h0)]
            rfl
        · have h0' : ts W i ≠ 0 := by omega
          have hg9 := a4 h0'
          have hat := zFF_at hff hT hW hiW h0' (hap i hiW h0')
          have htf := hat.2.2.2.2.2.2.2.2.1 h2
          have hjU := htf.1
          obtain ⟨u1, u2, u3, u4, -⟩ := hU.2.1 _ hjU
          have u8 : tg U (fj (tg W i)) ≤ 12 := by
            by_cases h0 : ts U (fj (tg W i)) = 0
            · exact u3 h0
            · have := u4 h0; omega
          refine ⟨ts U (fj (tg W i)), tg U (fj (tg W i)), htf.2.1, by omega, fun hc => ⟨by show ts U (fj (tg W i)) ≤ 3; exact u1, by rw [hlen]; exact hc, u3, u4, fun e => (by have : ts U (fj (tg W i)) = 1 ∨ ts U (fj (tg W i)) = 3 := e; omega), fun e => (by rw [hlen]; have := hap2 i hiW h2 e; omega)⟩, fun _ => ⟨_, hjU, rfl, rfl⟩, ?_, e79 _ _ (fun _ => rfl) ?_⟩
          · show g_X1_rewritten_10 F m (f_X1_rewritten_10 F m f) n' K I R (some w) (some p) (nI i) = _
            unfold g_X1_rewritten_10
            rw [zdr_s w15, zbd_s, hWc.2.2.2.2.2.2.2.1, if_neg (nI_ge (by omega) (by omega)), X5_numberOf hWc hW hiW, zbd_s, X5_sortOf hWc hW hiW, zbd_s, if_neg (fun e => h0' ((ni0 (by omega)).mp e)), zo_0 (show (0 : Int32) ≤ nI (tg W i) ∧ nI (tg W i) ≤ 9 from ⟨nI_pos' (by omega), nI_le (b := 9) hg9 (by decide)⟩), zbd_s, if_pos rfl, zbd_s, if_pos ((ni2 (by omega)).mpr h2), if_pos hm1, hu1, zbd_s, r5, zbd_s, zdr_s (t := 1) (by rw [k54]), zbd_s, zrd_s (by rw [k54]; show tg W i < 10; omega) (by rw [k54]; decide), zbd_s, hat.2.1, zdr_s (show (K u).1 = 15 by rw [hUc.1]), zbd_s, X5_headOf hUc hU hjU, zbd_s, haw, zbd_s, zdr_s p15, zbd_s]
          · rw [hY]
            show g_X7_builds_113 (Y + 1) zKm RM 89 _ (f_X7_builds_113 (Y + 1) zKm RM 89 _ Y) J (nI ow) (nI q) (nI to) (nI L.length) (nI i) (nI (ts W i)) (nI (tg W i)) 0 1 0 = _
            unfold g_X7_builds_113
            rw [if_neg (by decide), if_pos rfl, if_neg (fun e => h0' ((ni0 (by omega)).mp e)), r30, zbd_s, zdr_s (t := 1) (by rw [k113]), zbd_s, zrd_s (by rw [k113]; show tg W i < 10; omega) (by rw [k113]; decide), zbd_s, hat.2.2.2.2.1, X7_sort r0 (by omega) hUm hnU hjU, zbd_s]
            unfold f_X7_builds_205
            rw [if_neg (fun e => h0' ((ni0 (by omega)).mp e)), r30, zbd_s, zdr_s (t := 1) (by rw [k113]), zbd_s, zrd_s (by rw [k113]; show tg W i < 10; omega) (by rw [k113]; decide), zbd_s, hat.2.2.2.2.1, X7_number r0 (by omega) hUm hnU hjU, zbd_s]
            rfl
      obtain ⟨sy, g, y1, y2, y3, y4, eC, eJ⟩ := hhead
      have hb := build_head (F := F) (K := K) (R := R) (p := p) (to := to) (q := q) (U := U) (i := i) (s := s) hF hRM hto hqt kp.2.1 rp.1 hPq hBk hst2 (LFW_dep hW hU hok hiW) (LFW_one hW hU hok hiW) y1 y2 (by rw [hlen]; exact y3) y4
      rw [hlen] at hb
      rcases hb with ⟨b1, b2, b3, b4, b5, b6⟩ | ⟨b1, b2⟩
      · obtain ⟨fC, fJ⟩ := zBf_ap (I := I) (J := J) (p := p) (to := to) (n := L.length) (s := sy) (g := g) (r := wdt W fe i) b1
        refine BOut_step fC fJ ?_ ?_ (goOn _ _ (L ++ [(sy, g, LF (labW W U fj fe) (tsp W) (tr W i) (i + 1))]) (tr W i + s) fC fJ b4 b5 (by rw [b6, LF_add, show wk (tsp W) (tr W i) (i + 1) = i + tsp W i from he.1]) (by rw [wk_add, show wk (tsp W) (tr W i) (i + 1) = i + tsp W i from he.1]; exact hwk))
        · rw [eC, b3, zbd2_s]
          unfold f_X1_rewritten_130
          rw [if_neg (by decide), nI_1]
        · rw [eJ, if_neg (show ¬ ((32 : Int32) < nI (L.length + 1)) from nI_nlt (a := 32) (by omega) (by decide)), if_pos (show nI (wdt W fe i) ≤ (8 : Int32) from nI_le (b := 8) b2 (by decide)), X7_writes hRM hto b1, zbd_s, List.length_append]
          rfl
      · refine BOut_fail (I1 := I) (J1 := J) (fun _ _ _ => rfl) ⟨fun _ _ => rfl, fun _ _ => rfl⟩ ?_ ?_
        · rw [eC, b2 (by omega), zbd2_s]
          unfold f_X1_rewritten_130
          rw [if_pos rfl]
        · rw [eJ]
          rcases b1 with b1 | b1
          · rw [if_pos (show (32 : Int32) < nI (L.length + 1) from nI_lt (a := 32) (by omega) (by omega))]
          · by_cases hx : (32 : Int32) < nI (L.length + 1)
            · rw [if_pos hx]
            · rw [if_neg hx, if_neg (show ¬ (nI (wdt W fe i) ≤ (8 : Int32)) from nI_ge (a := 8) b1 (by omega))]
end ZRW
