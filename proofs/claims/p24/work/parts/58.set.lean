/-! STEPS: set, undo -/
theorem set38 {F : Nat} (hF : 5000 ≤ F) {k k' : Nat} {K : zK} {I : zI} {R : zR} {n : Nat} {KM : zK} {J : zI} {RM : zR} (hS : zSim k K I R n KM J RM) {w : Nat} (hw : w < 4) (v g : Int32) (hg : g ≤ 8191) (hv2 : w < 2 → g = 1) :
    ∃ r I1 R1 J1, f_X6_set_38 F K 0 I R (nI w) v v g = some (r, I1, R1) ∧ f_X7_set_23 F KM RM 89 J (nI w) v v 0 g = some (r, J1) ∧ zSim (k' + 1) K I1 R1 n KM J1 RM := by
  have hcf := zSim_cf hS
  obtain ⟨k0, k5, r3, r4⟩ := zK_fix hcf
  have hS0 : zSim (k' + 1) K I R n KM J RM := hS
  by_cases h1 : 0 ≤ v ∧ v ≤ g
  · obtain ⟨I', R', J', s, e1, e2, hS', hz', f1, f2, f3, f4, f5, f6⟩ := zRem hF hS
    obtain ⟨⟨hn, hK, hK2, hK3, hR, hKM, hRM⟩, -, -, hst, -⟩ := hS
    have hRM0 : RM 89 0 = some 90 := hRM 89 0 (by decide) (by decide) (by decide)
    have hcf' := zSim_cf hS'
    have hset := hst.2.1 w hw
    have hzs := hz'
    unfold zHa at hzs
    refine ⟨I 4 w, zup I' 4 w v, R', zup J' 90 (776 + w) v, ?_, ?_, ?_⟩
    · unfold f_X6_set_38
      rw [zo_0 h1, zbd_s, if_pos rfl, r3, zbd_s, zdr_s (t := 14) (by rw [hK 2 (by decide)]; rfl), zbd_s, X4_setting hcf (Or.inl rfl) hw, zbd_s, e1, zbd2_s, (zK_fix hcf').2.2.1, zbd_s, zdr_s (t := 14) (by rw [hK 2 (by decide)]; rfl), zbd_s, X4_choose hcf' (Or.inl rfl) hw, zbd_s]
    · unfold f_X7_set_23
      rw [zi_1 h1, zbd_s, if_neg (by decide), e2, zbd_s, hRM0, zbd_s, hKM, zd91, zbd_s, show (776 : Int32) = nI 776 from rfl, nI_add, zrd_s (by rw [zKm91]; show 776 + w < 5751; omega) (by decide), zbd_s, zbd_s, zd91, zbd_s, zwr_s (by rw [zKm91]; show 776 + w < 5751; omega) (by decide), zbd_s, f6 (776 + w) (by omega)]
      have h2 : J 90 (776 + w) = I 4 w := by
        have := hset
        rw [Nat.zero_add] at this
        exact this.symm
      rw [h2]
    · refine zSim_set hS' hw v ⟨h1.1, Int32.le_trans h1.2 hg⟩ (fun h => ?_)
      have hv := h1.2
      rw [hv2 h] at hv
      obtain ⟨j, hj, hx⟩ := nI_of2 (n := 1) (M := 1) (by decide) (Int32.not_lt.mpr h1.1) hv
      rcases Nat.eq_zero_or_pos j with h0 | h0
      · subst h0; exact Or.inl hx
      · have : j = 1 := by omega
        subst this
        exact Or.inr hx
  · refine ⟨-1, I, R, J, ?_, ?_, hS0⟩
    · unfold f_X6_set_38
      rw [zo_1 h1, zbd_s, if_neg (by decide)]
    · unfold f_X7_set_23
      rw [zi_0 h1, zbd_s, if_pos rfl]
theorem step_set (F : Nat) (hF : 5000 ≤ F) : zStep_set F 89 zSim := by
  intro k K I R n KM J RM x1 x2 hS
  by_cases h1 : 0 ≤ x1 ∧ x1 ≤ 3
  · obtain ⟨w, hw, rfl⟩ : ∃ w, w < 4 ∧ x1 = nI w := by
      obtain ⟨j, hj, hx⟩ := nI_of2 (n := 3) (M := 3) (by decide) (Int32.not_lt.mpr h1.1) h1.2
      exact ⟨j, by omega, hx⟩
    have hlit : ∀ m : Nat, m < 4 → (nI w = nI m ↔ w = m) := fun m hm => nI_eq (by omega) (by omega)
    by_cases h2 : w < 2
    · obtain ⟨r, I1, R1, J1, e1, e2, e3⟩ := set38 hF hS (k' := k) hw x2 1 (by decide) (fun _ => rfl)
      refine ⟨r, I1, R1, J1, ?_, ?_, e3⟩
      · unfold f_X6_set
        rw [zo_0 h1, zbd_s, if_pos rfl, if_neg (fun e => by have := (hlit 2 (by omega)).mp e; omega), if_neg (fun e => by have := (hlit 3 (by omega)).mp e; omega)]
        unfold f_X6_set_25
        rw [if_pos rfl]
        exact e1
      · unfold f_X7_set
        rw [zi_1 h1, zbd_s, if_neg (by decide), if_neg (show ¬ (2 : Int32) ≤ nI w from nI_ge (b := 2) h2 (by omega))]
        exact e2
    · obtain ⟨r, I1, R1, J1, e1, e2, e3⟩ := set38 hF hS (k' := k) hw x2 8191 (by decide) (fun h => absurd h h2)
      have e4 : f_X6_set_20 F K 0 I R (nI w) x2 = some (r, I1, R1) := by
        unfold f_X6_set_20 f_X6_set_25
        rw [if_neg (by decide)]
        exact e1
      refine ⟨r, I1, R1, J1, ?_, ?_, e3⟩
      · unfold f_X6_set
        rw [zo_0 h1, zbd_s, if_pos rfl]
        by_cases h3 : w = 2
        · rw [if_pos (show nI w = (2 : Int32) from (hlit 2 (by omega)).mpr h3)]
          exact e4
        · rw [if_neg (show ¬ nI w = (2 : Int32) from fun e => h3 ((hlit 2 (by omega)).mp e)), if_pos (show nI w = (3 : Int32) from (hlit 3 (by omega)).mpr (by omega))]
          exact e4
      · unfold f_X7_set
        rw [zi_1 h1, zbd_s, if_neg (by decide), if_pos (show (2 : Int32) ≤ nI w from nI_le (a := 2) (by omega) (by omega))]
        exact e2
  · refine ⟨-1, I, R, J, ?_, ?_, hS⟩
    · unfold f_X6_set
      rw [zo_1 h1, zbd_s, if_neg (by decide)]
    · unfold f_X7_set
      rw [zi_0 h1, zbd_s, if_pos rfl]
theorem step_undo (F : Nat) (hF : 5000 ≤ F) : zStep_undo F 89 zSim := by
  intro k K I R n KM J RM hS
  have hS0 := hS
  have hcf := zSim_cf hS
  obtain ⟨k0, k5, r3, r4⟩ := zK_fix hcf
  obtain ⟨⟨hn, hK, hK2, hK3, hR, hKM, hRM⟩, htx, hfk, hst, g, hg, hg1, hg2, hpast, hinj⟩ := hS
  have hRM0 : RM 89 0 = some 90 := hRM 89 0 (by decide) (by decide) (by decide)
  by_cases h0 : g = 0
  · subst h0
    refine ⟨-2, I, R, J, ?_, ?_, hS0⟩
    · unfold f_X6_undo
      rw [hg1, if_pos (by decide)]
    · unfold f_X7_undo
      rw [hg2, if_pos (by decide)]
  · obtain ⟨s, hs, hz, hsst⟩ := hpast (g - 1) (by omega)
    have hsst := hsst (by omega)
    have hzs := hz
    unfold zHa at hzs
    have hb : 780 * (g - 1 + 1) = 780 * g := by rw [Nat.sub_add_cancel (by omega)]
    rw [hb] at hsst
    refine ⟨nI (g - 1), zup (zrw I 4 0 4 (I (s + 2))) 0 5 (nI (g - 1)), zrw R 3 0 8 (R (s + 1)), zpg (zup J 89 1 (nI (g - 1))) (fun q => if 0 ≤ q ∧ q < 780 then J 90 (780 * g + q) else J 90 q), ?_, ?_, ?_⟩
    · unfold f_X6_undo
      rw [hg1, if_neg (show ¬ nI g ≤ 0 from nI_nle (by omega) (by omega)), r4, zbd_s, zdr_s (t := 3) (by rw [k5]), zbd_s, if_pos (by simp only [zln, k5]; exact nI_le (b := 6) (by omega) (by omega)), zbd_s, zdr_s (t := 3) (by rw [k5]), zbd_s, show (1 : Int32) = nI 1 from rfl, nI_sub (by omega), zrdR_s (by rw [k5]; show g - 1 < 6; omega) (by rw [k5]; decide), zbd_s, hs, zcs_s, r3, zbd_s, zdr_s (t := 14) (by rw [hK 2 (by decide)]; rfl), zbd_s, X4_copy (by omega) hcf (Or.inl rfl) (Or.inr hz) (zSt_kinds hsst), zbd2_s, zbd_s, zup_self]
      rw [show zrw I (2 + 2) 0 4 (I (s + 2)) 0 5 = I 0 5 from by rw [zrw_ne _ _ _ _ (by decide)], hg1, nI_sub (by omega)]
    · unfold f_X7_undo
      rw [hg2, if_neg (show ¬ nI g = 0 from nI_ne0 (by omega) (by omega)), hKM, show (0 : Int32) = nI 0 from rfl, undo12 F hRM0 g (by omega) hg 780 0 F J (by omega) (by omega) hg2]
    · have hkeep : ∀ b, 92 ≤ b → b < n → K b = K b ∧ zup (zrw I 4 0 4 (I (s + 2))) 0 5 (nI (g - 1)) b = I b ∧ zrw R 3 0 8 (R (s + 1)) b = R b := fun b h1 h2 => ⟨rfl, by rw [zup_ne _ _ _ (by omega), zrw_ne _ _ _ _ (by omega)], zrw_ne _ _ _ _ (by omega)⟩
      refine ⟨⟨hn, hK, hK2, hK3, fun a j hf => by rw [zrw_ne _ _ _ _ (by unfold zFin at hf; omega)]; exact hR a j hf, hKM, hRM⟩, ?_, ?_, ?_, g - 1, by omega, zup_self _ _ _ _, by rw [zpg_ne _ _ (by decide), zup_self], fun j hj => ?_, fun i j hi hj hij => ?_⟩
      · obtain ⟨b, hb, hb1, hb2, htx⟩ := htx
        refine ⟨b, hb, by rw [zup_self_ne _ _ _ (by decide), zrw_ne _ _ _ _ (by decide)]; exact hb1, by rw [zpg_ne _ _ (by decide), zup_self_ne _ _ _ (by decide)]; exact hb2, fun i hi => ?_⟩
        rw [zup_ne _ _ _ (by decide), zrw_ne _ _ _ _ (by decide), zpg_ne _ _ (by decide), zup_ne _ _ _ (by decide)]
        exact htx i hi
      · rw [zup_self_ne _ _ _ (by decide), zrw_ne _ _ _ _ (by decide), zpg_ne _ _ (by decide), zup_self_ne _ _ _ (by decide)]
        exact hfk
      · refine zSt_keep hsst (Nat.le_refl _) hkeep (fun r hr => zrw_in _ _ _ (Nat.zero_le _) hr) (fun j hj => ?_) (fun q hq => ?_)
        · rw [zup_ne _ _ _ (by decide)]
          exact zrw_in _ _ _ (Nat.zero_le _) hj
        · rw [zpg_91, if_pos (by omega), Nat.zero_add]
      · obtain ⟨a, ha, hza, hsta⟩ := hpast j hj
        have hza' := hza
        unfold zHa at hza'
        refine ⟨a, by rw [zrw_ne _ _ _ _ (by decide)]; exact ha, hza, fun hlt => ?_⟩
        refine zSt_keep (hsta (by omega)) (Nat.le_refl _) hkeep (fun r hr => by rw [zrw_ne _ _ _ _ (by omega)]) (fun j' hj' => by rw [zup_ne _ _ _ (by omega), zrw_ne _ _ _ _ (by omega)]) (fun q hq => ?_)
        rw [zpg_91, if_neg (by omega)]
      · rw [zrw_ne _ _ _ _ (by decide)] at hij
        exact hinj i j hi hj hij
