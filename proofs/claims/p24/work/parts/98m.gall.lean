/-! THE GHOST'S joinAll(7, 5) AND learn(0, 1, 0, 1, 6, 7) -/
section GAL
variable {F : Nat} {J J' : zI} {RM : zR} {S : gSt} {c : Nat → Int32} {H : List (gSt × (Nat → Int32))} {r q o i f : Nat} {P A : aFo}
theorem gBl_16 (h : gBl (J 90) 0 S c) : gBl (zup J 89 16 (0 : Int32) 90) 0 S c := by rw [zup_ne _ _ _ (by decide)]; exact h
theorem gHi_16 (h : gHi J H) : gHi (zup J 89 16 (0 : Int32)) H := gHi_keep h (zup_self_ne _ _ _ (by decide)) (fun q _ _ => zup_nb _ _ _ (by decide) _)
theorem gBl_cp {fr : Nat} (h : gBl (J 90) 0 S c) : gBl (zCp J fr 5557 97 90) 0 S c := gBl_keep h fun q hq => by unfold zCp; rw [if_neg (by omega)]
theorem gHi_cp {fr : Nat} (h : gHi J H) : gHi (zCp J fr 5557 97) H := gHi_keep h (by unfold zCp; rw [if_neg (by omega)]) (fun q _ _ => by unfold zCp; rw [if_neg (by omega)])
theorem ga_skip (hi : i < 8) (h0 : sbt 7 i = 0) : f_X7_joinAll_105 F zKm RM 89 (f + 1) J (nI 7) (nI o) (nI i) = f_X7_joinAll_105 F zKm RM 89 f J (nI 7) (nI o) (nI (i + 1)) := by
  show g_X7_joinAll_105 F zKm RM 89 _ J (nI 7) (nI o) (nI i) = _
  unfold g_X7_joinAll_105 f_X7_joinAll_194
  rw [if_neg (show ¬ ((8 : Int32) ≤ nI i) from nI_ge (b := 8) (by omega) (by decide)), sbt_at 7 (by decide) i hi, h0, if_neg (by decide), nI_1]
theorem ga_at (hRM : zRM RM) (hi : i < 8) (h1 : sbt 7 i = 1) : f_X7_joinAll_105 F zKm RM 89 (f + 1) J (nI 7) (nI o) (nI i) = if J 90 5557 = (0 : Int32) then f_X7_joinAll_143 F zKm RM 89 (f_X7_joinAll_105 F zKm RM 89 f) (zup J 89 16 0) (nI 7) (nI o) (nI i) (1 : Int32) else f_X7_joinAll_143 F zKm RM 89 (f_X7_joinAll_105 F zKm RM 89 f) (zup J 89 16 0) (nI 7) (nI o) (nI i) (0 : Int32) := by
  have hR0 : RM 89 0 = some 90 := hRM 89 0 (by decide) (by decide) (by decide)
  show g_X7_joinAll_105 F zKm RM 89 _ J (nI 7) (nI o) (nI i) = _
  unfold g_X7_joinAll_105 f_X7_joinAll_194
  rw [if_neg (show ¬ ((8 : Int32) ≤ nI i) from nI_ge (b := 8) (by omega) (by decide)), sbt_at 7 (by decide) i hi, h1, if_pos (by decide), zbd_s, hR0, zbd_s, zd91, zbd_s, show zrd zKm (zup J 89 16 (0 : Int32)) 90 (5557 : Int32) = some (zup J 89 16 (0 : Int32) 90 5557) from zrd_s (j := 5557) (by decide) (by decide), zbd_s, zup_nb _ _ _ (by decide)]
theorem ga_first (hF : 5000 ≤ F) (hRM : zRM RM) (hi : i < 8) (h1 : sbt 7 i = 1) (hz : J 90 5557 = 0) (hb : gBl (J 90) 0 S c) (hh : gHi J H) (hA : S i = some A) : ∃ J', f_X7_joinAll_105 F zKm RM 89 (f + 1) J (nI 7) (nI o) (nI i) = f_X7_joinAll_105 F zKm RM 89 f J' (nI 7) (nI o) (nI (i + 1)) ∧ gBl (J' 90) 0 S c ∧ gHi J' H ∧ zTm (J' 90) 5557 (tmF A) := by
  obtain ⟨a1, a2, a3⟩ := gBl_some hb hi hA
  have e : f_X7_joinAll_105 F zKm RM 89 (f + 1) J (nI 7) (nI o) (nI i) = f_X7_joinAll_105 F zKm RM 89 f (zCp (zup J 89 16 0) (97 * i) 5557 97) (nI 7) (nI o) (nI (i + 1)) := by
    rw [ga_at hRM hi h1, if_pos hz]
    unfold f_X7_joinAll_143 f_X7_joinAll_171 f_X7_joinAll_188 f_X7_joinAll_194
    rw [if_neg (by decide), if_neg (by decide), show zdr zKm (some 89) 17 = some 89 from rfl, zbd_s, nl97, nI_mul, show f_X7_copies F zKm (zup J 89 16 0) RM 89 (nI (97 * i)) (5557 : Int32) = some (zCp (zup J 89 16 0) (97 * i) 5557 97) from X7_copies (fr := 97 * i) (to := 5557) hRM (by omega) (by omega) (by decide) (by omega), zbd_s, nI_1]
  refine ⟨_, e, gBl_cp (gBl_16 hb), gHi_cp (gHi_16 hh), zTm_keep a2 (fun q hq => ?_) (gGd_wf a1).1.1.2.1⟩
  unfold zCp
  rw [if_pos ⟨rfl, by omega, by omega⟩, zup_nb _ _ _ (by decide), show 97 * i + (5557 + q - 5557) = 97 * i + q by omega]
theorem ga_join (hF : 5000 ≤ F) (hRM : zRM RM) (hi : i < 8) (h1 : sbt 7 i = 1) (hP : gGd P) (hPm : zTm (J 90) 5557 (tmF P)) (hb : gBl (J 90) 0 S c) (hh : gHi J H) (hA : S i = some A) (hc1 : c 1 = 0) {hd : Bool} (hc0 : c 0 = 1 ↔ hd = true) :
    (jn hd P A 0 0 [] = none ∧ ∃ J', f_X7_joinAll_105 F zKm RM 89 (f + 1) J (nI 7) (nI o) (nI i) = some (-3, J') ∧ gBl (J' 90) 0 S c ∧ gHi J' H) ∨ ∃ Q tb J', jn hd P A 0 0 [] = some (Q, tb) ∧ f_X7_joinAll_105 F zKm RM 89 (f + 1) J (nI 7) (nI o) (nI i) = f_X7_joinAll_105 F zKm RM 89 f J' (nI 7) (nI o) (nI (i + 1)) ∧ gBl (J' 90) 0 S c ∧ gHi J' H ∧ gGd Q ∧ zTm (J' 90) 5557 (tmF Q) := by
  obtain ⟨a1, a2, a3⟩ := gBl_some hb hi hA
  have n1 := (gGd_wf hP).1.1.1
  have n2 := (gGd_wf hP).1.1.2.1
  have hz : ¬ J 90 5557 = 0 := by rw [hPm.1]; exact nI_ne0 (by omega) (by omega)
  have e90 : zup J 89 16 (0 : Int32) 90 = J 90 := zup_ne _ _ _ (by decide)
  obtain ⟨v, J1, j1, j2, j3⟩ := gJoins (F := F) (J := zup J 89 16 0) (hd := hd) (a := 5557) (b := 97 * i) (to := 5460) hF hRM ⟨by decide, by omega, by decide, by decide, Or.inr (by decide), Or.inl (by omega)⟩ (gGd_wf hP).1 (gGd_wf a1).1 (gGd_wf hP).2 (gGd_wf a1).2 hP.1 a1.1 (by rw [e90]; exact hPm) (by rw [e90]; exact a2) (zup_self _ _ _ _) (by rw [e90]; exact (gBl_c hb (k := 1) (by decide)).trans hc1) (by rw [e90, gBl_c hb (k := 0) (by decide)]; exact hc0)
  have hb1 := gBl_jo hb (Nat.le_refl _) j2
  have hh1 := gHi_jo hh (Nat.le_refl _) j2
  have j1' : f_X7_joins F zKm (zup J 89 16 0) RM 89 (5557 : Int32) (nI (97 * i)) (5460 : Int32) = some (v, J1) := j1
  have eJ2 : f_X7_joinAll_105 F zKm RM 89 (f + 1) J (nI 7) (nI o) (nI i) = if v = (0 : Int32) then some ((-3 : Int32), J1) else f_X7_joinAll_171 F zKm RM 89 (f_X7_joinAll_105 F zKm RM 89 f) J1 (nI 7) (nI o) (nI i) 0 := by
    rw [ga_at hRM hi h1, if_neg hz]
    unfold f_X7_joinAll_143
    rw [if_pos rfl, nl97, nI_mul, j1', zbd2_s]
  rcases j3 with ⟨k1, rfl⟩ | ⟨Q, tb, k1, rfl, k3, -⟩
  · exact Or.inl ⟨k1, J1, by rw [eJ2, if_pos rfl], hb1, hh1⟩
  · have hQ := (gGd_jn hP k1).1
    refine Or.inr ⟨Q, tb, zCp J1 5460 5557 97, k1, ?_, gBl_cp hb1, gHi_cp hh1, hQ, zTm_keep k3 (fun q hq => ?_) (gGd_wf hQ).1.1.2.1⟩
    · rw [eJ2, if_neg (by decide)]
      unfold f_X7_joinAll_171 f_X7_joinAll_188 f_X7_joinAll_194
      rw [if_pos rfl, show zdr zKm (some 89) 17 = some 89 from rfl, zbd_s, show f_X7_copies F zKm J1 RM 89 (5460 : Int32) (5557 : Int32) = some (zCp J1 5460 5557 97) from X7_copies (fr := 5460) (to := 5557) hRM (by omega) (by decide) (by decide) (Or.inl (by decide)), zbd_s, nI_1]
    · unfold zCp
      rw [if_pos ⟨rfl, by omega, by omega⟩, show 5460 + (5557 + q - 5557) = 5460 + q by omega]
theorem ga_end (hF : 5000 ≤ F) (hRM : zRM RM) (ho : o < 8) (hP : gGd P) (hPm : zTm (J 90) 5557 (tmF P)) (hb : gBl (J 90) 0 S c) (hh : gHi J H) : ∃ J', f_X7_joinAll_105 F zKm RM 89 (f + 1) J (nI 7) (nI o) (nI 8) = some (nI (qSz P), J') ∧ gBl (J' 90) 0 (gUp S o (some P)) c ∧ gHi J' [] := by
  obtain ⟨J1, m1, m2, m3⟩ := g_keep hF hRM hb hh (fr := 5557) (by decide) (by decide) ho hP hPm
  refine ⟨J1, ?_, m2, m3⟩
  show g_X7_joinAll_105 F zKm RM 89 _ J (nI 7) (nI o) (nI 8) = _
  unfold g_X7_joinAll_105
  rw [if_pos (by decide)]
  exact m1
theorem ga_28 (hRM : zRM RM) (hi : i < 8) {x : Int32} {n : Nat} (h : sbt 7 i = 1 → J 90 (97 * i) ≠ 0) : f_X7_joinAll_28 F zKm RM 89 (f + 1) J (nI 7) x (nI n) 1 (nI i) = f_X7_joinAll_28 F zKm RM 89 f J (nI 7) x (nI (n + sbt 7 i)) 1 (nI (i + 1)) := by
  have hR0 : RM 89 0 = some 90 := hRM 89 0 (by decide) (by decide) (by decide)
  have hb2 := sbt_lt 7 i
  show g_X7_joinAll_28 F zKm RM 89 _ J (nI 7) x (nI n) 1 (nI i) = _
  unfold g_X7_joinAll_28 f_X7_joinAll_71 f_X7_joinAll_67 f_X7_joinAll_72
  rw [if_neg (show ¬ ((8 : Int32) ≤ nI i) from nI_ge (b := 8) (by omega) (by decide)), sbt_at 7 (by decide) i hi, nI_add, zbd_s, nI_1, X7_isEmpty hR0 hi, zbd_s, if_neg (by decide)]
  by_cases h0 : sbt 7 i = 0
  · rw [if_pos (by rw [h0]; rfl)]
  · rw [if_neg (fun e => h0 ((ni0 (by omega)).mp e)), if_neg (h (by omega)), if_pos rfl]
theorem g_joinAll (hF : 5000 ≤ F) (hRM : zRM RM) (hb : gBl (J 90) 0 S c) (hh : gHi J H) (ho : o < 8) {T U V : aFo} (hT : S 0 = some T) (hU : S 1 = some U) (hV : S 2 = some V) (hc1 : c 1 = 0) {hd : Bool} (hc0 : c 0 = 1 ↔ hd = true) :
    (∃ J', f_X7_joinAll F zKm J RM 89 7 (nI o) = some (-3, J') ∧ gBl (J' 90) 0 S c ∧ gHi J' []) ∨ ∃ Q tQ P tP J', jn hd T U 0 0 [] = some (Q, tQ) ∧ jn hd Q V 0 0 [] = some (P, tP) ∧ f_X7_joinAll F zKm J RM 89 7 (nI o) = some (nI (qSz P), J') ∧ gBl (J' 90) 0 (gUp S o (some P)) c ∧ gHi J' [] := by
  have hR0 : RM 89 0 = some 90 := hRM 89 0 (by decide) (by decide) (by decide)
  have hT1 := gBl_some hb (show 0 < 8 by decide) hT
  have hU1 := gBl_some hb (show 1 < 8 by decide) hU
  have hV1 := gBl_some hb (show 2 < 8 by decide) hV
  obtain ⟨g, hg⟩ : ∃ g, F = g + 9 := ⟨F - 9, by omega⟩
  have e28 : f_X7_joinAll_28 F zKm RM 89 (g + 9) J (nI 7) (nI o) (nI 0) 1 (nI 0) = f_X7_joinAll_105 F zKm RM 89 F (zup J 90 5557 0) (nI 7) (nI o) (nI 0) := by
    rw [ga_28 hRM (by decide) (fun _ => hT1.2.2), ga_28 hRM (by decide) (fun _ => hU1.2.2), ga_28 hRM (by decide) (fun _ => hV1.2.2), ga_28 hRM (by decide) (fun e => absurd e (by decide)), ga_28 hRM (by decide) (fun e => absurd e (by decide)), ga_28 hRM (by decide) (fun e => absurd e (by decide)), ga_28 hRM (by decide) (fun e => absurd e (by decide)), ga_28 hRM (by decide) (fun e => absurd e (by decide))]
    show g_X7_joinAll_28 F zKm RM 89 _ J (nI 7) (nI o) (nI 3) 1 (nI 8) = _
    unfold g_X7_joinAll_28
    rw [if_pos (by decide), if_neg (by decide), if_neg (by decide), hR0, zbd_s, zd91, zbd_s, show zwr zKm J 90 (5557 : Int32) 0 = some (zup J 90 5557 0) from zwr_s (j := 5557) (by decide) (by decide), zbd_s]
    rfl
  have eA : f_X7_joinAll F zKm J RM 89 7 (nI o) = f_X7_joinAll_105 F zKm RM 89 (g + 9) (zup J 90 5557 0) (nI 7) (nI o) (nI 0) := by
    rw [← hg, ← e28, ← hg]
    unfold f_X7_joinAll
    rw [zi_1 (show (0 : Int32) ≤ 7 ∧ (7 : Int32) ≤ 255 from ⟨by decide, by decide⟩), zbd_s, if_neg (by decide), X7_reg ho, zbd_s, if_neg (by decide)]
    rfl
  have hb0 : gBl (zup J 90 5557 (0 : Int32) 90) 0 S c := gBl_keep hb fun q hq => zup_self_ne _ _ _ (by omega)
  have hh0 : gHi (zup J 90 5557 (0 : Int32)) H := gHi_keep hh (zup_nb _ _ _ (by decide) _) (fun q _ _ => zup_self_ne _ _ _ (by omega))
  rw [eA]
  obtain ⟨J1, a1, a2, a3, a4⟩ := ga_first (f := g + 8) (o := o) hF hRM (show 0 < 8 by decide) (by decide) (zup_self J 90 5557 0) hb0 hh0 hT
  rw [a1]
  rcases ga_join (f := g + 7) (o := o) hF hRM (show 0 + 1 < 8 by decide) (by decide) hT1.1 a4 a2 a3 hU hc1 hc0 with ⟨b1, J2, b2, b3, b4⟩ | ⟨Q, tQ, J2, b1, b2, b3, b4, b5, b6⟩
  · exact Or.inl ⟨J2, b2, b3, gHi_nil b4⟩
  · rw [b2]
    rcases ga_join (f := g + 6) (o := o) hF hRM (show 0 + 1 + 1 < 8 by decide) (by decide) b5 b6 b3 b4 hV hc1 hc0 with ⟨d1, J3, d2, d3, d4⟩ | ⟨P, tP, J3, d1, d2, d3, d4, d5, d6⟩
    · exact Or.inl ⟨J3, d2, d3, gHi_nil d4⟩
    · rw [d2, ga_skip (f := g + 5) (by decide) (by decide), ga_skip (f := g + 4) (by decide) (by decide), ga_skip (f := g + 3) (by decide) (by decide), ga_skip (f := g + 2) (by decide) (by decide), ga_skip (f := g + 1) (by decide) (by decide)]
      obtain ⟨J4, m1, m2, m3⟩ := ga_end (f := g) hF hRM ho d5 d6 d3 d4
      exact Or.inr ⟨Q, tQ, P, tP, J4, b1, d1, m1, m2, m3⟩
/-- learn() of one pair, twice -/
theorem g_learn (hF : 5000 ≤ F) (hRM : zRM RM) (hb : gBl (J 90) 0 S c) (hh : gHi J H) {T U : aFo} (hT : S 0 = some T) (hU : S 1 = some U) (pT : pHF T) (pU : pHF U) (hc1 : c 1 = 0) {hd : Bool} (hc0 : c 0 = 1 ↔ hd = true) :
    ∃ J', f_X7_learn F zKm J RM 89 0 1 0 1 6 7 = some (1, J') ∧ gBl (J' 90) 0 (gUp (gUp S 6 (some T)) 7 (some U)) c ∧ gHi J' [] := by
  have hR0 : RM 89 0 = some 90 := hRM 89 0 (by decide) (by decide) (by decide)
  have z10 : ¬ ((1 : Int32) = 0) := by decide
  obtain ⟨a1, a2, a3⟩ := gBl_some hb (show 0 < 8 by decide) hT
  obtain ⟨b1, b2, b3⟩ := gBl_some hb (show 1 < 8 by decide) hU
  have wT := gGd_wf a1
  have wU := gGd_wf b1
  have e90 : zup J 89 16 (0 : Int32) 90 = J 90 := zup_ne _ _ _ (by decide)
  obtain ⟨v, J1, j1, j2, j3⟩ := gJoins (F := F) (J := zup J 89 16 0) (hd := hd) (a := 97 * 0) (b := 97 * 0) (to := 5460) hF hRM (gRw_regs (by decide) (by decide) (Nat.le_refl _) (by decide)) wT.1 wT.1 wT.2 wT.2 a1.1 a1.1 (by rw [e90]; exact a2) (by rw [e90]; exact a2) (zup_self _ _ _ _) (by rw [e90]; exact (gBl_c hb (k := 1) (by decide)).trans hc1) (by rw [e90, gBl_c hb (k := 0) (by decide)]; exact hc0)
  have hb1 := gBl_jo hb (Nat.le_refl _) j2
  have hh1 := gHi_jo hh (Nat.le_refl _) j2
  rcases j3 with ⟨k1, -⟩ | ⟨P, tb, k1, rfl, k3, k4⟩
  · rw [jn_self _ _ _ _ pT] at k1; cases k1
  rw [jn_self _ _ _ _ pT] at k1
  cases k1
  obtain ⟨b1', b2', b3'⟩ := gBl_some hb1 (show 1 < 8 by decide) hU
  obtain ⟨v', J2, m1, m2, m3⟩ := gJoins (F := F) (J := J1) (hd := hd) (a := 97 * 1) (b := 97 * 1) (to := 5557) hF hRM (gRw_regs (by decide) (by decide) (by decide) (by decide)) wU.1 wU.1 wU.2 wU.2 b1.1 b1.1 b2' b2' k4.2.1 ((gBl_c hb1 (k := 1) (by decide)).trans hc1) (by rw [gBl_c hb1 (k := 0) (by decide)]; exact hc0)
  rcases m3 with ⟨k1, -⟩ | ⟨P, tb, k1, rfl, n3, n4⟩
  · rw [jn_self _ _ _ _ pU] at k1; cases k1
  rw [jn_self _ _ _ _ pU] at k1
  cases k1
  have hb2 : gBl (J2 90) 0 S c := gBl_keep hb1 fun q hq => m2.2.2 _ (by omega)
  have hh2 : gHi J2 H := gHi_keep hh1 (m2.2.1 1 (by decide) (by decide)) (fun q _ _ => m2.2.2 _ (by omega))
  have q3 : zTm (J2 90) 5460 (tmF T) := zTm_keep k3 (fun q hq => m2.2.2 _ (by omega)) wT.1.1.2.1
  obtain ⟨J3, r1, r2, r3, r4, r5⟩ := g_rec hF hRM hb2 (gHi_nil hh2) (Nat.zero_le _)
  have q3' : zTm (J3 90) 5460 (tmF T) := zTm_keep q3 (fun q hq => r2 _ (by omega)) wT.1.1.2.1
  have n3' : zTm (J3 90) 5557 (tmF U) := zTm_keep n3 (fun q hq => r2 _ (by omega)) wU.1.1.2.1
  have p1 : f_X7_puts F zKm J3 RM 89 (nI 5460) (nI 6) = some (J3 90 5460, zCp J3 5460 (97 * 6) 97) := X7_puts hRM (by omega) (by decide) (by decide) (by decide)
  have p2 : f_X7_puts F zKm (zCp J3 5460 (97 * 6) 97) RM 89 (nI 5557) (nI 7) = some (zCp J3 5460 (97 * 6) 97 90 5557, zCp (zCp J3 5460 (97 * 6) 97) 5557 (97 * 7) 97) := X7_puts hRM (by omega) (by decide) (by decide) (by decide)
  have lo : ∀ q, (q < 97 * 6 ∨ 97 * 6 + 97 ≤ q) → zCp J3 5460 (97 * 6) 97 90 q = J3 90 q := fun q hq => by unfold zCp; rw [if_neg (by omega)]
  have lo2 : ∀ q, (q < 97 * 7 ∨ 97 * 7 + 97 ≤ q) → zCp (zCp J3 5460 (97 * 6) 97) 5557 (97 * 7) 97 90 q = zCp J3 5460 (97 * 6) 97 90 q := fun q hq => by rw [zCp, if_neg (by omega)]
  have t6 : zTm (zCp J3 5460 (97 * 6) 97 90) (97 * 6) (tmF T) := zTm_keep q3' (fun q hq => by unfold zCp; rw [if_pos ⟨rfl, by omega, by omega⟩, show 5460 + (97 * 6 + q - 97 * 6) = 5460 + q by omega]) wT.1.1.2.1
  have t7 : zTm (zCp (zCp J3 5460 (97 * 6) 97) 5557 (97 * 7) 97 90) (97 * 7) (tmF U) := zTm_keep n3' (fun q hq => by rw [zCp, if_pos ⟨rfl, by omega, by omega⟩, show 5557 + (97 * 7 + q - 97 * 7) = 5557 + q by omega, lo _ (by omega)]) wU.1.1.2.1
  have hb3 : gBl (J3 90) 0 S c := gBl_keep hb2 fun q hq => r2 _ (by omega)
  have hb4 := gBl_up (P' := zCp J3 5460 (97 * 6) 97 90) hb3 (show 6 < 8 by decide) (fun q _ hq => lo q hq) a1 t6
  have hb5 := gBl_up (P' := zCp (zCp J3 5460 (97 * 6) 97) 5557 (97 * 7) 97 90) hb4 (show 7 < 8 by decide) (fun q _ hq => lo2 q hq) b1 t7
  have h57 : zTm (zCp (zCp J3 5460 (97 * 6) 97) 5557 (97 * 7) 97 90) 5557 (tmF U) := zTm_keep n3' (fun q hq => by rw [lo2 _ (by omega), lo _ (by omega)]) wU.1.1.2.1
  have h60 : zTm (zCp (zCp J3 5460 (97 * 6) 97) 5557 (97 * 7) 97 90) 5460 (tmF T) := zTm_keep q3' (fun q hq => by rw [lo2 _ (by omega), lo _ (by omega)]) wT.1.1.2.1
  have s1 := X7_holesOf (F := F) (J := zCp (zCp J3 5460 (97 * 6) 97) 5557 (97 * 7) 97) (by omega) hRM (show 5557 + 97 ≤ 5751 by decide) h57 wU.1
  have s2 := X7_holesOf (F := F) (J := zCp (zCp J3 5460 (97 * 6) 97) 5557 (97 * 7) 97) (by omega) hRM (show 5460 + 97 ≤ 5751 by decide) h60 wT.1
  rw [show cHl (tmF U) (tn (tmF U)) = 0 from pHF_hl pU _ (Nat.le_refl _)] at s1
  rw [show cHl (tmF T) (tn (tmF T)) = 0 from pHF_hl pT _ (Nat.le_refl _)] at s2
  refine ⟨_, ?_, hb5, gHi_keep (gHi_nil r3) ?_ (fun q h1 h2 => by rw [lo2 _ (by omega), lo _ (by omega)])⟩
  · show f_X7_learn F zKm J RM 89 (nI 0) (nI 1) (nI 0) (nI 1) (nI 6) (nI 7) = _
    unfold f_X7_learn
    rw [X7_reg (show 0 < 8 by decide), zbd_s, if_neg z10, X7_reg (show 1 < 8 by decide), zbd_s, if_neg z10, zbd_s, if_neg z10, zbd_s, if_neg z10, X7_reg (show 6 < 8 by decide), zbd_s, if_neg z10, X7_reg (show 7 < 8 by decide), zbd_s, if_neg z10, if_neg (by decide), X7_isEmpty hR0 (show 0 < 8 by decide), zbd_s, X7_isEmpty hR0 (show 1 < 8 by decide), zbd_s, if_neg a3, if_pos rfl, if_neg b3, if_pos rfl, zbd_s, if_pos rfl, zbd_s, if_pos rfl]
    simp only [zbd_s, nl97, nI_mul]
    rw [show f_X7_joins F zKm (zup J 89 16 0) RM 89 (nI (97 * 0)) (nI (97 * 0)) (5460 : Int32) = some (1, J1) from j1, zbd2_s, if_neg z10, show f_X7_joins F zKm J1 RM 89 (nI (97 * 1)) (nI (97 * 1)) (5557 : Int32) = some (1, J2) from m1, zbd2_s, if_neg z10, r1, zbd_s, show f_X7_puts F zKm J3 RM 89 (5460 : Int32) (nI 6) = _ from p1, zbd2_s, show f_X7_puts F zKm (zCp J3 5460 (97 * 6) 97) RM 89 (5557 : Int32) (nI 7) = _ from p2, zbd2_s, show f_X7_holesOf F zKm (zCp (zCp J3 5460 (97 * 6) 97) 5557 (97 * 7) 97) RM 89 (5557 : Int32) = _ from s1, zbd_s, show f_X7_holesOf F zKm (zCp (zCp J3 5460 (97 * 6) 97) 5557 (97 * 7) 97) RM 89 (5460 : Int32) = _ from s2, zbd_s, if_pos (by decide)]
  · rw [zCp, if_neg (by omega), zCp, if_neg (by omega)]
end GAL
