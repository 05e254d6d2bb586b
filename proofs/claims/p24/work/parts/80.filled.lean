/-! filled -/
section ZF1
variable {F : Nat} {K : zK} {I : zI} {R : zR} {J : zI} {RM : zR} {m g n : Nat} {T U : Tm} {x1 x2 : Int32}
theorem zrange {x M : Int32} {n : Nat} (hM : M.toInt = n) (h : 0 ≤ x ∧ x ≤ M) : ∃ j : Nat, j ≤ n ∧ x = nI j := nI_of2 hM (Int32.not_lt.mpr h.1) h.2
theorem X7_wrongF (F : Nat) (K : zK) (J : zI) (RM : zR) (x1 x2 : Int32) : f_X7_wrong F K J RM 89 x1 x2 0 = some (-1) := rfl
/-- filling() against the reference's rows -/
theorem filling_both (hM : zMk K R m) (hRM : zRM RM) (hg : g < 10) {w : Nat} (hw : w ≤ 2) (hU : tSh U) (h : zFl1 T U I J m n g) (hT : ∀ p, p < n → ts T p ≤ 3) :
    ∃ v, f_X1_filling F K I R m (nI g) (nI w) = some v ∧ (zbd (some (RM 89 31)) fun o11 => zbd (zdr zKm o11 1) fun a12 => zbd (zrd zKm J a12 (nI g)) fun v15 => if (0 : Int32) ≤ v15 then if nI w = (1 : Int32) then (zbd (some (RM 89 31)) fun o35 => zbd (zdr zKm o35 1) fun a36 => zbd (zrd zKm J a36 (nI g)) fun v39 => some (v39, J)) else if nI w = (2 : Int32) then (zbd (some (RM 89 32)) fun o30 => zbd (zdr zKm o30 1) fun a31 => zbd (zrd zKm J a31 (nI g)) fun v34 => some (v34, J)) else (zbd (some (RM 89 31)) fun o19 => zbd (zdr zKm o19 1) fun a20 => zbd (zrd zKm J a20 (nI g)) fun v23 => if v23 = (0 : Int32) then some ((-9 : Int32), J) else (zbd (some (RM 89 30)) fun o25 => zbd (zdr zKm o25 1) fun a26 => zbd (zrd zKm J a26 (nI g)) fun v29 => some (v29, J))) else some ((-9 : Int32), J)) = some (v, J) := by
  obtain ⟨hm, km, ⟨k51, k52, k53, k54, k55, k56⟩, r2, r3, r4, r5, r6, r7⟩ := hM
  have q30 : RM 89 30 = some 112 := hRM 89 30 (by decide) (by decide) (by decide)
  have q31 : RM 89 31 = some 113 := hRM 89 31 (by decide) (by decide) (by decide)
  have q32 : RM 89 32 = some 114 := hRM 89 32 (by decide) (by decide) (by decide)
  have k113 : zKm 112 = (1, 10) := rfl
  have k114 : zKm 113 = (1, 10) := rfl
  have k115 : zKm 114 = (1, 10) := rfl
  have eC : f_X1_filling F K I R m (nI g) (nI w) = if I (m + 11) g = (-1 : Int32) then some (-9 : Int32) else if nI w = 0 then (if I (m + 13) g = (0 : Int32) then some (-9 : Int32) else some (I (m + 12) g)) else if nI w = 1 then some (I (m + 13) g) else some (I (m + 14) g) := by
    unfold f_X1_filling
    rw [zo_0 (show (0 : Int32) ≤ nI g ∧ nI g ≤ 9 from ⟨nI_pos' (by omega), nI_le (b := 9) (by omega) (by omega)⟩), zbd_s, if_pos rfl]
    simp only [zbd_s, r4, r5, r6, r7, zdr_s (show (K (m + 11)).1 = 1 by rw [k53]), zdr_s (show (K (m + 12)).1 = 1 by rw [k54]), zdr_s (show (K (m + 13)).1 = 1 by rw [k55]), zdr_s (show (K (m + 14)).1 = 1 by rw [k56]), zrd_s (K := K) (I := I) (a := m + 11) (j := g) (by rw [k53]; exact hg) (by rw [k53]; decide), zrd_s (K := K) (I := I) (a := m + 12) (j := g) (by rw [k54]; exact hg) (by rw [k54]; decide), zrd_s (K := K) (I := I) (a := m + 13) (j := g) (by rw [k55]; exact hg) (by rw [k55]; decide), zrd_s (K := K) (I := I) (a := m + 14) (j := g) (by rw [k56]; exact hg) (by rw [k56]; decide)]
  rw [eC]
  simp only [zbd_s, q30, q31, q32, zdr_s (show (zKm 112).1 = 1 from rfl), zdr_s (show (zKm 113).1 = 1 from rfl), zdr_s (show (zKm 114).1 = 1 from rfl), zrd_s (K := zKm) (I := J) (a := 112) (j := g) (by rw [k113]; exact hg) (by rw [k113]; decide), zrd_s (K := zKm) (I := J) (a := 113) (j := g) (by rw [k114]; exact hg) (by rw [k114]; decide), zrd_s (K := zKm) (I := J) (a := 114) (j := g) (by rw [k115]; exact hg) (by rw [k115]; decide)]
  rcases h with ⟨a, b, -⟩ | ⟨p, j, c, e, p1, p2, p3, f3, f4, f5, f6, f7, f8, f9, f10⟩
  · refine ⟨-9, by rw [if_pos a], ?_⟩
    rw [b, if_neg (by decide)]
  · have h3 := hT p p1
    obtain ⟨hle, -⟩ := tFill_le hU (show ts T p = 1 ∨ ts T p = 2 ∨ ts T p = 3 by omega) f10
    have hn := hU.2.1
    rw [f3, f4, f5, f6, f7, f8, f9, if_neg (nim1 (show ts T p < 2 ^ 31 by omega)), if_pos (nI_pos' (show c < 2 ^ 31 by omega))]
    have h012 : w = 0 ∨ w = 1 ∨ w = 2 := by omega
    rcases h012 with rfl | rfl | rfl
    · by_cases hc : c = 0
      · subst hc
        exact ⟨-9, rfl, rfl⟩
      · have hz : ¬ nI c = (0 : Int32) := nI_ne0 (by omega) (by omega)
        refine ⟨nI j, ?_, ?_⟩
        · rw [if_pos (show nI 0 = (0 : Int32) from rfl), if_neg hz]
        · rw [if_neg (by decide), if_neg (by decide), if_neg hz]
    · exact ⟨nI c, rfl, rfl⟩
    · exact ⟨nI e, rfl, rfl⟩
end ZF1
theorem step_filled (F : Nat) (hF : 5000 ≤ F) : zStep_filled F 89 zSim := by
  intro k K I R n KM J RM x1 x2 x3 x4 hS
  have hS0 : zSim k K I R n KM J RM := zSim_scr hS (fun _ _ => rfl)
  obtain ⟨hcf, hRM, rfl, hK, hR, hn⟩ := zSim_ctx hS
  have hR0 : RM 89 0 = some 90 := hRM 89 0 (by decide) (by decide) (by decide)
  have r3 : R 0 3 = some 2 := hR 3 (by decide)
  have r9 : R 0 9 = some 41 := hR 9 (by decide)
  have k42 : K 41 = (11, 0) := hK 41 (by decide)
  have k2 : K 2 = (14, 0) := hK 2 (by decide)
  have eJ : f_X7_filled F zKm J RM 89 x1 x2 x3 x4 = if (0 ≤ x3 ∧ x3 ≤ 9) ∧ (0 ≤ x4 ∧ x4 ≤ 2) then f_X7_filled_28 F zKm RM 89 J x1 x2 x3 x4 (some 89) x1 x2 1 else some (-1, J) := by
    have h27 : f_X7_filled_28 F zKm RM 89 J x1 x2 x3 x4 (some 89) x1 x2 0 = some (-1, J) := rfl
    unfold f_X7_filled f_X7_filled_27
    rw [h27, zi_eq, zbd_s, zi_eq, zbd_s]
    by_cases h3 : 0 ≤ x3 ∧ x3 ≤ 9
    · rw [if_pos h3, if_neg (by decide)]
      by_cases h4 : 0 ≤ x4 ∧ x4 ≤ 2
      · rw [if_pos h4, if_neg (by decide), if_pos ⟨h3, h4⟩]
      · rw [if_neg h4, if_pos rfl, if_neg (fun h => h4 h.2)]
    · rw [if_neg h3, if_pos rfl, if_neg (fun h => h3 h.1)]
  by_cases h12 : (0 ≤ x1 ∧ x1 ≤ 7) ∧ (0 ≤ x2 ∧ x2 ≤ 7)
  · obtain ⟨r, hr, rfl⟩ := zreg h12.1
    obtain ⟨q, hq, rfl⟩ := zreg h12.2
    by_cases h34 : (0 ≤ x3 ∧ x3 ≤ 9) ∧ (0 ≤ x4 ∧ x4 ≤ 2)
    · obtain ⟨g, hg, rfl⟩ := zrange (n := 9) (by decide) h34.1
      obtain ⟨w, hw, rfl⟩ := zrange (n := 2) (by decide) h34.2
      have e6 : f_X6_filled F K I R 0 (nI r) (nI q) (nI g) (nI w) = zcs (R 3 r) (some ((-2 : Int32), I, R)) (fun a25 => zcs (R 3 q) (some ((-2 : Int32), I, R)) (fun a27 => zbd3 (f_X1_matches F K I R 41 (some a25) (some a27)) fun v33 I34 R35 => if v33 = (0 : Int32) then some ((-9 : Int32), I34, R35) else zbd (some (R35 0 9)) fun o38 => zbd (zdr K o38 11) fun a39 => zbd (f_X1_filling F K I34 R35 a39 (nI g) (nI w)) fun v42 => some (v42, I34, R35))) := by
        unfold f_X6_filled
        rw [X6_reg hr, zbd_s, if_pos rfl, X6_reg hq, zbd_s, if_pos rfl, zo_0 h34.1, zbd_s, if_pos rfl, zo_0 h34.2, zbd_s, if_pos rfl, r3, zbd_s, zdr_s (t := 14) (by rw [k2]), zbd_s, X6_term hcf hr, zbd_s, zbd_s, zdr_s (t := 14) (by rw [k2]), zbd_s, X6_term hcf hq, zbd_s]
        simp only [r9, zbd_s, zdr_s (show (K 41).1 = 11 by rw [k42])]
      rw [e6, eJ, if_pos h34]
      unfold f_X7_filled_28
      rw [show zdr zKm (some 89) 17 = some 89 from rfl, zbd_s]
      rcases zSim_at hS hr with ⟨hx, hz⟩ | ⟨t, T, hx, hz, -⟩
      · refine ⟨-2, I, R, J, by rw [hx, zcs_n], ?_, hS0⟩
        rw [X7_wrong2 hR0 hr hq (Or.inl hz), zbd_s, if_neg (by decide)]
      · rcases zSim_at hS hq with ⟨hx', hz'⟩ | ⟨u, U, hx', hz', -⟩
        · refine ⟨-2, I, R, J, by rw [hx, zcs_s, hx', zcs_n], ?_, hS0⟩
          rw [X7_wrong2 hR0 hr hq (Or.inr hz'), zbd_s, if_neg (by decide)]
        · obtain ⟨v, I1, J1, T, U, hv, m1, m2, hS1, -, -, ⟨hT, hU, -⟩, hfl⟩ := sim_match (F := F) (by omega) hS (Or.inl rfl) hr hq hx hx'
          have g9 : zup (zup R 41 0 (some t)) 41 1 (some u) 0 9 = some 41 := by rw [zup_nb _ _ _ (by decide), zup_nb _ _ _ (by decide)]; exact r9
          rw [X7_wrong0 hR0 hr hq hz hz', zbd_s, if_pos rfl, nl97, nI_mul, nI_mul, m2, zbd2_s, hx, zcs_s, hx', zcs_s, m1, zbd3_s]
          rcases hv with rfl | rfl
          · exact ⟨-9, I1, _, J1, rfl, rfl, hS1 k⟩
          · obtain ⟨hcf1, -⟩ := zSim_ctx (hS1 k)
            obtain ⟨v, b1, b2⟩ := filling_both (F := F) (zMk_of hcf1 (Or.inl rfl)) hRM (show g < 10 by omega) hw hU.1 ((hfl rfl).1 g (by omega)) (fun p hp => (hT.2.1 p hp).1)
            refine ⟨v, I1, _, J1, ?_, ?_, hS1 k⟩
            · rw [if_neg (by decide), g9, zbd_s, zdr_s (show (K 41).1 = 11 by rw [k42]), zbd_s, b1, zbd_s]
            · rw [if_neg (by decide)]
              exact b2
    · refine ⟨-1, I, R, J, ?_, by rw [eJ, if_neg h34], hS0⟩
      unfold f_X6_filled
      rw [X6_reg hr, zbd_s, if_pos rfl, X6_reg hq, zbd_s, if_pos rfl, zo_eq, zbd_s, zo_eq, zbd_s]
      by_cases h3 : 0 ≤ x3 ∧ x3 ≤ 9
      · rw [if_pos h3, if_pos rfl, if_neg (fun h => h34 ⟨h3, h⟩), if_neg (by decide)]
      · rw [if_neg h3, if_neg (by decide)]
  · refine ⟨-1, I, R, J, ?_, ?_, hS0⟩
    · unfold f_X6_filled
      by_cases h1 : 0 ≤ x1 ∧ x1 ≤ 7
      · obtain ⟨r, hr, rfl⟩ := zreg h1
        rw [X6_reg hr, zbd_s, if_pos rfl, X6_noreg (fun h2 => h12 ⟨h1, h2⟩), zbd_s, if_neg (by decide)]
      · rw [X6_noreg h1, zbd_s, if_neg (by decide)]
    · rw [eJ]
      by_cases h34 : (0 ≤ x3 ∧ x3 ≤ 9) ∧ (0 ≤ x4 ∧ x4 ≤ 2)
      · rw [if_pos h34]
        unfold f_X7_filled_28
        rw [show zdr zKm (some 89) 17 = some 89 from rfl, zbd_s, X7_wrong1 _ h12, zbd_s, if_neg (by decide)]
      · rw [if_neg h34]
