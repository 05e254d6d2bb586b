/-! A new term comes into a register; join and origin -/
section ZKP
variable {F k k' : Nat} {K K' : zK} {I I' : zI} {R R' : zR} {J J' : zI} {RM : zR} {n to : Nat}
def zBgI (I : zI) : zI := zup (zup (zup I 21 0 (if I 4 0 = 1 then 1 else 0)) 21 1 (if I 4 1 = 1 then 1 else 0)) 21 5 0
theorem X0_begin (hcf : zCf K R) : f_X0_begin F K I R 21 (some 2) = some (zBgI I) := by
  have k2 : (K 2).1 = 14 := by rw [hcf.1 2 (by decide)]; rfl
  have k22 : (K 21).1 = 10 := by rw [hcf.1 21 (by decide)]; rfl
  have e0 : ∀ I : zI, f_X4_setting F K I R 2 (0 : Int32) = some (I 4 0) := fun I => X4_setting hcf (Or.inl rfl) (r := 0) (by decide)
  have e1 : ∀ I : zI, f_X4_setting F K I R 2 (1 : Int32) = some (I 4 1) := fun I => X4_setting hcf (Or.inl rfl) (r := 1) (by decide)
  have e15 : ∀ s : Int32, s = 0 ∨ s = 1 → f_X0_begin_15 F K R 21 I (some 2) (some 21) s = some (zup (zup (zup I 21 0 s) 21 1 (if I 4 1 = 1 then 1 else 0)) 21 5 0) := fun s hs => by
    unfold f_X0_begin_15
    rw [zdr_s k22, zbd_s, if_pos hs, zbd_s, zdr_s k2, zbd_s, e1, zbd_s, zup_nb _ _ _ (by decide)]
    by_cases h : I 4 1 = 1
    · rw [if_pos h, if_pos h]; rfl
    · rw [if_neg h, if_neg h]; rfl
  unfold f_X0_begin
  rw [zdr_s k2, zbd_s, e0, zbd_s]
  unfold zBgI
  by_cases h : I 4 0 = 1
  · rw [if_pos h, if_pos h, e15 _ (Or.inr rfl)]
  · rw [if_neg h, if_neg h, e15 _ (Or.inl rfl)]
theorem zBgI_b {b : Nat} (h : b ≠ 21) : zBgI I b = I b := by
  unfold zBgI
  rw [zup_ne _ _ _ h, zup_ne _ _ _ h, zup_ne _ _ _ h]
theorem zBgI_22 : zBgI I 21 0 = (if I 4 0 = 1 then 1 else 0) ∧ zBgI I 21 1 = (if I 4 1 = 1 then 1 else 0) ∧ zBgI I 21 5 = 0 := by
  unfold zBgI
  exact ⟨by rw [zup_self_ne _ _ _ (by decide), zup_self_ne _ _ _ (by decide), zup_self], by rw [zup_self_ne _ _ _ (by decide), zup_self], zup_self _ _ _ _⟩
/-- the joiner begins: nothing of zSim -/
theorem zSim_begin (h : zSim k K I R n zKm J RM) : zSim k' K (zBgI I) R n zKm (zup J 89 16 0) RM := by
  obtain ⟨b, hb, hb1, hb2, htx⟩ := h.2.1
  have e : ∀ q, q ≠ 16 → zup J 89 16 (0 : Int32) 89 q = J 89 q := fun q hq => zup_self_ne _ _ _ hq
  exact zSim_keep h (Nat.le_refl _) (fun _ _ => rfl) h.1.2.2.2.1 (fun c c1 _ => ⟨zBgI_b (by omega), rfl⟩) (fun _ _ _ => rfl) (fun _ _ _ _ => rfl) (fun a ha j _ => by rw [zBgI_b (by unfold zHs zHa at ha; omega)]) (fun _ _ => rfl) (by rw [zBgI_b (by decide)]) (fun q _ => zup_nb _ _ _ (by decide) _) (e 1 (by decide)) ⟨b, hb, by rw [zBgI_b (by decide)]; exact hb1, by rw [e 3 (by decide)]; exact hb2, fun i hi => by rw [zBgI_b (by decide), zup_ne _ _ _ (by decide)]; exact htx i hi⟩ (by rw [zBgI_b (by decide), e 4 (by decide)]; exact h.2.2.1)
theorem zSim_join (h : zSim k K I R n zKm J RM) (hto : 5460 ≤ to) (hC : zJoC n K K' I I' R R') (hJ : zJoJ to J J') : zSim k' K' I' R' (n + 4) zKm J' RM := by
  obtain ⟨b, hb, hb1, hb2, htx⟩ := h.2.1
  have hn := h.1.1
  obtain ⟨c1, c2, c3, c4, c5, c6⟩ := hC
  refine zSim_keep h (by omega) c1 (fun b hb => by rw [c2 b hb]; exact h.1.2.2.2.1 b (by omega)) (fun c h1 h2 => ⟨c3 c h2 (by omega) (by omega) (by omega) (by omega) (by omega) (by omega), c5 c h2 (by omega) (by omega) (by omega)⟩) (fun a j hf => ?_) (fun a ha r _ => ?_) (fun a ha j _ => ?_) (fun j _ => by rw [c5 5 (by omega) (by decide) (by decide) (by decide)]) (by rw [c3 0 (by omega) (by decide) (by decide) (by decide) (by decide) (by decide) (by decide)]) (fun q hq => hJ.2.2 q (by omega)) (hJ.2.1 1 (by decide) (by decide)) ⟨b, hb, by rw [c3 0 (by omega) (by decide) (by decide) (by decide) (by decide) (by decide) (by decide)]; exact hb1, by rw [hJ.2.1 3 (by decide) (by decide)]; exact hb2, fun i hi => by rw [c3 1 (by omega) (by decide) (by decide) (by decide) (by decide) (by decide) (by decide), hJ.1 91 (by decide) (by decide) (by decide) (by decide) (by decide)]; exact htx i hi⟩ (by rw [c3 0 (by omega) (by decide) (by decide) (by decide) (by decide) (by decide) (by decide), hJ.2.1 4 (by decide) (by decide)]; exact h.2.2.1)
  · by_cases h22 : a = 21
    · subst h22
      exact c6 j (by unfold zFin at hf; omega)
    · rw [c5 a (by unfold zFin at hf; omega) h22 (by unfold zFin at hf; omega) (by unfold zFin at hf; omega)]
  · unfold zHs zHa at ha
    rw [c5 _ (by omega) (by omega) (by omega) (by omega)]
  · unfold zHs zHa at ha
    rw [c3 _ (by omega) (by omega) (by omega) (by omega) (by omega) (by omega) (by omega)]
/-- copies() -/
def zCp (J : zI) (fr to x : Nat) : zI := fun b q => if b = 90 ∧ to ≤ q ∧ q < to + x then J 90 (fr + (q - to)) else J b q
theorem X7_copies (hRM : zRM RM) (hF : 200 ≤ F) {fr to : Nat} (h1 : fr + 97 ≤ 5751) (h2 : to + 97 ≤ 5751) (hd : fr + 97 ≤ to ∨ to + 97 ≤ fr) : f_X7_copies F zKm J RM 89 (nI fr) (nI to) = some (zCp J fr to 97) := by
  have r0 : RM 89 0 = some 90 := hRM 89 0 (by decide) (by decide) (by decide)
  have key : ∀ (d x t : Nat), x + d = 97 → d < t → f_X7_copies_2 F zKm RM 89 t (zCp J fr to x) (nI fr) (nI to) (nI x) = some (zCp J fr to 97) := by
    intro d
    induction d with
    | zero =>
      intro x t hx ht
      obtain ⟨t, rfl⟩ : ∃ u, t = u + 1 := ⟨t - 1, by omega⟩
      obtain rfl : x = 97 := by omega
      show g_X7_copies_2 F zKm RM 89 _ (zCp J fr to 97) (nI fr) (nI to) (nI 97) = _
      unfold g_X7_copies_2
      rw [if_pos (show (97 : Int32) ≤ nI 97 by decide)]
    | succ d ih =>
      intro x t hx ht
      obtain ⟨t, rfl⟩ : ∃ u, t = u + 1 := ⟨t - 1, by omega⟩
      show g_X7_copies_2 F zKm RM 89 _ (zCp J fr to x) (nI fr) (nI to) (nI x) = _
      unfold g_X7_copies_2
      rw [if_neg (show ¬ ((97 : Int32) ≤ nI x) from nI_ge (b := 97) (by omega) (by decide)), r0, zbd_s, zbd_s, zd91, zbd_s, nI_add, zrd_s (by rw [zKm91]; show fr + x < 5751; omega) (by decide), zbd_s, zbd_s, nI_add, zwr_s (by rw [zKm91]; show to + x < 5751; omega) (by decide), zbd_s, nI_1]
      have e : zup (zCp J fr to x) 90 (to + x) (zCp J fr to x 90 (fr + x)) = zCp J fr to (x + 1) := by
        funext b q
        unfold zup zCp
        by_cases hb : b = 90
        · subst hb
          by_cases hq : q = to + x
          · rw [if_pos ⟨rfl, hq⟩, if_neg (by omega), if_pos ⟨rfl, by omega, by omega⟩, show fr + (q - to) = fr + x by omega]
          · rw [if_neg (by omega)]
            by_cases hq2 : to ≤ q ∧ q < to + x
            · rw [if_pos ⟨rfl, hq2⟩, if_pos ⟨rfl, by omega, by omega⟩]
            · rw [if_neg (by omega), if_neg (by omega)]
        · rw [if_neg (by omega), if_neg (by omega), if_neg (by omega)]
      rw [e]
      exact ih (x + 1) t (by omega) (by omega)
  unfold f_X7_copies
  have e0 : zCp J fr to 0 = J := by
    funext b q
    unfold zCp
    rw [if_neg (by omega)]
  have := key 97 0 F (by decide) (by omega)
  rw [e0] at this
  exact this
theorem X7_puts (hRM : zRM RM) (hF : 200 ≤ F) {fr r : Nat} (h1 : fr + 97 ≤ 5751) (h2 : 5460 ≤ fr) (hr : r < 8) : f_X7_puts F zKm J RM 89 (nI fr) (nI r) = some (J 90 fr, zCp J fr (97 * r) 97) := by
  have r0 : RM 89 0 = some 90 := hRM 89 0 (by decide) (by decide) (by decide)
  unfold f_X7_puts
  rw [nl97, nI_mul, X7_copies hRM hF h1 (by omega) (by omega), zbd_s, r0, zbd_s, zd91, zbd_s, zrd_s (by rw [zKm91]; show 97 * r < 5751; omega) (by decide), zbd_s]
  unfold zCp
  rw [if_pos ⟨rfl, by omega, by omega⟩, Nat.sub_self, Nat.add_zero]
/-- one register is written after remember() -/
theorem reg_both (hF : 5000 ≤ F) (hS : zSim k K I R n zKm J RM) {t fr r : Nat} {P : Tm} (h1 : 92 ≤ t) (h2 : t + 4 ≤ n) (hP : tWF P) (hPc : zTc K I R t P) (hPm : zTm (J 90) fr P) (hfr : 5460 ≤ fr) (hfr2 : fr + 97 ≤ 5751) (hr : r < 8) : f_X4_hold F K I R 2 (nI r) (some t) = some (zup R 3 r (some t)) ∧ f_X7_puts F zKm J RM 89 (nI fr) (nI r) = some (nI (tn P), zCp J fr (97 * r) 97) ∧ zSim k' K I (zup R 3 r (some t)) n zKm (zCp J fr (97 * r) 97) RM := by
  obtain ⟨hcf, hRM, -⟩ := zSim_ctx hS
  refine ⟨X4_hold hcf (Or.inl rfl) hr (fun b hb => by cases hb; rw [hPc.1]), by rw [X7_puts hRM (by omega) hfr2 hfr hr, hPm.1], ?_⟩
  refine zSim_reg hS hr (some t) (fun q q1 q2 => ?_) (fun q _ => ?_) ?_ ⟨h1, h2, P, hP, hPc, zTm_keep hPm (fun q hq => ?_) hP.1.2.1⟩
  · unfold zCp; rw [if_neg (by omega)]
  · unfold zCp; rw [if_neg (by omega)]
  · funext q; unfold zCp; rw [if_neg (by omega)]
  · unfold zCp; rw [if_pos ⟨rfl, by omega, by omega⟩, show fr + (97 * r + q - 97 * r) = fr + q by omega]
theorem keep_both (hF : 5000 ≤ F) (hS : zSim k K I R n zKm J RM) {t fr r : Nat} {P : Tm} (h1 : 92 ≤ t) (h2 : t + 4 ≤ n) (hP : tWF P) (hPc : zTc K I R t P) (hPm : zTm (J 90) fr P) (hfr : 5460 ≤ fr) (hfr2 : fr + 97 ≤ 5751) (hr : r < 8) : ∃ v I3 R3 J3, f_X6_keep F K I R 0 (some t) (nI r) = some (v, I3, R3) ∧ (zbd (f_X7_records F zKm J RM 89) fun I11 => zbd2 (f_X7_puts F zKm I11 RM 89 (nI fr) (nI r)) fun v13 I14 => some (v13, I14)) = some (v, J3) ∧ zSim k K I3 R3 n zKm J3 RM := by
  obtain ⟨I', R', J', s, a1, a2, a3, a4, a5, a6, a7, a8, a9, a10⟩ := zRem hF hS
  obtain ⟨hcf, hRM, -, hK, hR, -⟩ := zSim_ctx a3
  have hs : s < 87 := by unfold zHa at a4; omega
  have hPc' : zTc K I' R' t P := zTc_row hPc h1 (fun b hb => a5 b (by omega) (by omega)) (fun b hb => a7 b (by omega) (by omega))
  have hPm' : zTm (J' 90) fr P := zTm_keep hPm (fun q _ => a10 _ (by omega)) hP.1.2.1
  obtain ⟨b1, b2, b3⟩ := reg_both (k' := k) hF a3 h1 h2 hP hPc' hPm' hfr hfr2 hr
  refine ⟨nI (tn P), I', _, _, ?_, ?_, b3⟩
  · unfold f_X6_keep
    rw [zcs_s, a1, zbd2_s, hR 3 (by decide), zbd_s, show zRt 0 3 = some 2 from rfl, zdr_s (t := 14) (by rw [hK 2 (by decide)]; rfl), zbd_s, b1, zbd_s, if_pos (by rw [hPc'.1]), hPc'.2.2.2.2.2.2.2.1]
  · rw [a2, zbd_s, b2, zbd2_s]
/-- two registers of zSim, as terms that can be joined -/
theorem sim_tr (hS : zSim k K I R n zKm J RM) {r t : Nat} {w : Nat × Nat} (hr : r < 8) (ht : R 3 r = some t) (hw : 776 ≤ w.1 ∧ w.1 ≤ to ∧ to + 97 ≤ w.2) : ∃ T, zTr K I R J n w to t (97 * r) T := by
  rcases zSim_at hS hr with ⟨e, -⟩ | ⟨t', T, e, -, ht1, ht2, hT, hTc, hTm⟩
  · rw [ht] at e; cases e
  · rw [ht] at e; cases e
    exact ⟨T, ht1, ht2, by omega, by omega, hT, hTc, hTm⟩
theorem sim_flags (hS : zSim k K I R n zKm J RM) : zBgI I 21 0 = (if zup J 89 16 (0 : Int32) 90 776 = 1 then 1 else 0) ∧ zBgI I 21 1 = (if zup J 89 16 (0 : Int32) 90 777 = 1 then 1 else 0) := by
  obtain ⟨a, b, -⟩ := zBgI_22 (I := I)
  obtain ⟨-, -, -, ⟨-, h2, -⟩, -⟩ := hS
  have e0 := h2 0 (by decide)
  have e1 := h2 1 (by decide)
  rw [a, b, show I 4 0 = J 90 776 from e0, show I 4 1 = J 90 777 from e1, zup_nb _ _ _ (by decide), zup_nb _ _ _ (by decide)]
  exact ⟨rfl, rfl⟩
/-- the table begins empty -/
theorem tb_empty {p : Nat} {w : Nat × Nat} : zTb K (zBgI I) R (zup J 89 16 0) p w to 0 := ⟨Nat.zero_le _, zBgI_22.2.2, zup_self _ _ _ _, fun h hh => by omega⟩
end ZKP
