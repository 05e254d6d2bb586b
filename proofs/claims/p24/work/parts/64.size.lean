/-- the reference's last loop: how many holes, and their sum -/
def l98 (m : Int32) : Nat → Int32 → Int32 → Int32 → Int32 × Int32
  | 0, c, s, _ => (c, s)
  | d + 1, c, s, x => l98 m d (c + ((m >>> (x &&& 31)) &&& (1 : Int32))) (s + (((m >>> (x &&& 31)) &&& (1 : Int32)) * x)) (x + 1)
def lsm (m : Int32) : Nat → Int32 → Int32 → Int32
  | 0, s, _ => s
  | d + 1, s, x => lsm m d (s + (((m >>> (x &&& 31)) &&& (1 : Int32)) * x)) (x + 1)
def lpc (x0 : Int32) : Int32 :=
  let v1 := x0 - (((x0.toUInt32 >>> ((1 : Int32).toUInt32 &&& Int32.toUInt32 31)).toInt32) &&& (1431655765 : Int32))
  let v2 := (v1 &&& (858993459 : Int32)) + (((v1.toUInt32 >>> ((2 : Int32).toUInt32 &&& Int32.toUInt32 31)).toInt32) &&& (858993459 : Int32))
  let v3 := (v2 + ((v2.toUInt32 >>> ((4 : Int32).toUInt32 &&& Int32.toUInt32 31)).toInt32)) &&& (252645135 : Int32)
  let v4 := v3 + ((v3.toUInt32 >>> ((8 : Int32).toUInt32 &&& Int32.toUInt32 31)).toInt32)
  let v5 := v4 + ((v4.toUInt32 >>> ((16 : Int32).toUInt32 &&& Int32.toUInt32 31)).toInt32)
  v5 &&& (63 : Int32)
theorem J6_bit (F : Nat) (K : zK) (I : zI) (R : zR) (x : Int32) : f_J6_bitCount_0f7a4 F K I R x = some (lpc x) := rfl
set_option maxRecDepth 100000 in
theorem l98_all : ∀ m, m < 1024 → l98 (nI m) 10 0 0 0 = (lpc (nI m), lsm (nI m) 32 0 0) := by decide +kernel
theorem sumMem (F : Nat) (K : zK) (I : zI) (R : zR) (m : Int32) : ∀ (d x t : Nat) (s : Int32), x + d = 32 → d < t → f_X6_sumOfMembers_4 F K I R t m s (nI x) = some (lsm m d s (nI x)) := by
  intro d
  induction d with
  | zero =>
    intro x t s hx ht
    obtain ⟨t, rfl⟩ : ∃ u, t = u + 1 := ⟨t - 1, by omega⟩
    show g_X6_sumOfMembers_4 F K I R _ m s (nI x) = _
    unfold g_X6_sumOfMembers_4
    rw [show x = 32 by omega, if_pos (by decide)]
    rfl
  | succ d ih =>
    intro x t s hx ht
    obtain ⟨t, rfl⟩ : ∃ u, t = u + 1 := ⟨t - 1, by omega⟩
    show g_X6_sumOfMembers_4 F K I R _ m s (nI x) = _
    unfold g_X6_sumOfMembers_4
    rw [if_neg (show ¬ ((32 : Int32) ≤ nI x) from nI_ge (a := x) (b := 32) (by omega) (by omega)), zbd_s, nI_1, ih (x + 1) t _ (by omega) (by omega)]
    simp only [lsm]
    rw [nI_1]
theorem size98 {F : Nat} {J : zI} {RM : zR} {o : Nat} (hR0 : RM 89 0 = some 90) (ho : o + 97 ≤ 5751) (q m y z : Int32) : ∀ (d x t : Nat) (c s : Int32), x + d = 10 → d < t → f_X7_sizeOf_98 F zKm RM 89 t J q (nI o) m y z c s (nI x) = some (if q = 0 then J 90 o else if q = 1 then y else if q = 2 then (l98 m d c s (nI x)).1 else if q = 3 then z else (l98 m d c s (nI x)).2, J) := by
  intro d
  induction d with
  | zero =>
    intro x t c s hx ht
    obtain ⟨t, rfl⟩ : ∃ u, t = u + 1 := ⟨t - 1, by omega⟩
    show g_X7_sizeOf_98 F zKm RM 89 _ J q (nI o) m y z c s (nI x) = _
    unfold g_X7_sizeOf_98
    rw [show x = 10 by omega, if_pos (by decide)]
    by_cases h0 : q = 0
    · rw [if_pos h0, if_pos h0, hR0, zbd_s, zd91, zbd_s, zrd_s (by rw [zKm91]; show o < 5751; omega) (by decide), zbd_s]
    rw [if_neg h0, if_neg h0]
    by_cases h1 : q = 1
    · rw [if_pos h1, if_pos h1]
    rw [if_neg h1, if_neg h1]
    by_cases h2 : q = 2
    · rw [if_pos h2, if_pos h2]; rfl
    rw [if_neg h2, if_neg h2]
    by_cases h3 : q = 3
    · rw [if_pos h3, if_pos h3]
    · rw [if_neg h3, if_neg h3]; rfl
  | succ d ih =>
    intro x t c s hx ht
    obtain ⟨t, rfl⟩ : ∃ u, t = u + 1 := ⟨t - 1, by omega⟩
    show g_X7_sizeOf_98 F zKm RM 89 _ J q (nI o) m y z c s (nI x) = _
    unfold g_X7_sizeOf_98
    rw [if_neg (show ¬ ((10 : Int32) ≤ nI x) from nI_ge (a := x) (b := 10) (by omega) (by omega)), zbd_s, zbd_s, nI_1, ih (x + 1) t _ _ (by omega) (by omega)]
    simp only [l98]
    rw [nI_1]
def zsz (T : Tm) (q : Int32) : Int32 := if q = 0 then nI (tn T) else if q = 1 then nI (cSy T (tn T)) else if q = 2 then lpc (cHl T (tn T)) else if q = 3 then nI (cDp T (tn T)) else lsm (cHl T (tn T)) 32 0 0
theorem X7_sizeOf {F : Nat} {J : zI} {RM : zR} {r : Nat} {T : Tm} (hF : 100 ≤ F) (hR0 : RM 89 0 = some 90) (hR5 : RM 89 5 = some 92) (hR7 : RM 89 7 = some 94) (hR8 : RM 89 8 = some 95) (hr : r < 58) (hT : tWF T) (h : zTm (J 90) (97 * r) T) (q : Int32) :
    ∃ J', f_X7_sizeOf F zKm J RM 89 (nI r) q = some (zsz T q, J') ∧ ∀ b, b ≠ 92 → b ≠ 94 → b ≠ 95 → J' b = J b := by
  have hn := hT.1.2.1
  obtain ⟨J', e1, e2, e3⟩ := X7_levels (F := F) hF hR0 hR5 hR7 hR8 (show 97 * r + 97 ≤ 5751 by omega) hT.1 (tWF_r hT) h
  have h' : zTm (J' 90) (97 * r) T := by rw [e2 90 (by decide) (by decide) (by decide)]; exact h
  obtain ⟨m, hm1, hm2⟩ := cHl_lt hT.2.1 (tn T) (Nat.le_refl _)
  have e4 : f_X7_holesOf F zKm J RM 89 (nI (97 * r)) = some (cHl T (tn T)) := holesOf4 (F := F) hR0 (by omega) h hT (tn T) 0 F (by omega) (by omega)
  have e5 := size26 (F := F) hR0 hR7 (show 97 * r + 97 ≤ 5751 by omega) h' hT (fun j hj => (e3 j hj).2) q (cHl T (tn T)) (tn T) 0 F (by omega) (by omega)
  have e6 := size98 (F := F) (J := J') hR0 (show 97 * r + 97 ≤ 5751 by omega) q (cHl T (tn T)) (nI (cSy T (tn T))) (nI (cDp T (tn T))) 10 0 F 0 0 (by omega) (by omega)
  refine ⟨J', ?_, e2⟩
  unfold f_X7_sizeOf zsz
  rw [zbd_s, show (97 : Int32) = nI 97 from rfl, nI_mul, e4, zbd_s, e1, zbd_s]
  refine (e5.trans e6).trans ?_
  rw [h'.1, show (nI 0 : Int32) = 0 from rfl, hm2, l98_all m hm1]
theorem step_size (F : Nat) (hF : 5000 ≤ F) : zStep_size F 89 zSim := by
  intro k K I R n KM J RM x1 x2 hS
  have hS0 : zSim k K I R n KM J RM := zSim_scr hS (fun _ _ => rfl)
  have hcf := zSim_cf hS
  obtain ⟨k0, k5, r3, r4⟩ := zK_fix hcf
  have hat := fun r (hr : r < 8) => zSim_at hS hr
  obtain ⟨⟨hn, hK, hK2, hK3, hR, hKM, hRM⟩, -⟩ := hS
  have hR0 : RM 89 0 = some 90 := hRM 89 0 (by decide) (by decide) (by decide)
  have hR5 : RM 89 5 = some 92 := hRM 89 5 (by decide) (by decide) (by decide)
  have hR7 : RM 89 7 = some 94 := hRM 89 7 (by decide) (by decide) (by decide)
  have hR8 : RM 89 8 = some 95 := hRM 89 8 (by decide) (by decide) (by decide)
  by_cases h1 : 0 ≤ x1 ∧ x1 ≤ 7
  · obtain ⟨r, hr, rfl⟩ := zreg h1
    by_cases h3 : 0 ≤ x2 ∧ x2 ≤ 4
    · rcases hat r hr with ⟨hx, hz⟩ | ⟨t, T, hx, hz, ht1, ht2, hT, hTc, hTm⟩
      · refine ⟨-2, J, ?_, ?_, hS0⟩
        · unfold f_X6_size
          rw [X6_reg hr, zbd_s, if_pos rfl, zo_0 h3, zbd_s, if_pos rfl, r3, zbd_s, zdr_s (t := 14) (by rw [hK 2 (by decide)]; rfl), zbd_s, X4_term hcf (Or.inl rfl) hr, zbd_s, show R (2 + 1) r = none from hx, zcs_n]
        · unfold f_X7_size
          rw [X7_reg hr, zbd_s, if_neg (by decide), zi_1 h3, zbd_s, if_neg (by decide), hKM, X7_isEmpty hR0 hr, if_pos hz, zbd_s, if_neg (by decide)]
      · have hn32 := hT.1.2.1
        obtain ⟨J', g1, g2⟩ := X7_sizeOf (F := F) (by omega) hR0 hR5 hR7 hR8 (show r < 58 by omega) hT hTm x2
        refine ⟨zsz T x2, J', ?_, ?_, zSim_scr hS0 (fun b hb => g2 b (by omega) (by omega) (by omega))⟩
        rotate_left
        · unfold f_X7_size
          rw [X7_reg hr, zbd_s, if_neg (by decide), zi_1 h3, zbd_s, if_neg (by decide), hKM, X7_isEmpty hR0 hr, if_neg hz, zbd_s, if_pos rfl, g1, zbd2_s]
        · have s1 : f_X5_symbols F K I R t = some (nI (cSy T (tn T))) := symbols4 hTc hT (tn T) 0 F (by omega) (by omega)
          have s2 : f_X5_greatestDepth F K I R t = some (nI (cDp T (tn T))) := depth4 hTc hT (tn T) 0 F (by omega) (by omega)
          have s3 : f_X5_holes F K I R t = some (cHl T (tn T)) := holes4 hTc hT (tn T) 0 F (by omega) (by omega)
          have s4 : f_X6_sumOfMembers F K I R (cHl T (tn T)) = some (lsm (cHl T (tn T)) 32 0 0) := sumMem F K I R _ 32 0 F 0 (by omega) (by omega)
          have hk : (K t).1 = 15 := by rw [hTc.1]
          unfold f_X6_size zsz
          rw [X6_reg hr, zbd_s, if_pos rfl, zo_0 h3, zbd_s, if_pos rfl, r3, zbd_s, zdr_s (t := 14) (by rw [hK 2 (by decide)]; rfl), zbd_s, X4_term hcf (Or.inl rfl) hr, zbd_s, show R (2 + 1) r = some t from hx, zcs_s]
          simp only [if_pos hk, s1, s2, s3, zbd_s, J6_bit, s4, hTc.2.2.2.2.2.2.2.1]
          split
          · rfl
          split
          · rfl
          split
          · rfl
          split
          · rfl
          · rfl
    · refine ⟨-1, J, ?_, ?_, hS0⟩
      · unfold f_X6_size
        rw [X6_reg hr, zbd_s, if_pos rfl, zo_1 h3, zbd_s, if_neg (by decide)]
      · unfold f_X7_size
        rw [X7_reg hr, zbd_s, if_neg (by decide), zi_0 h3, zbd_s, if_pos rfl]
  · refine ⟨-1, J, ?_, ?_, hS0⟩
    · unfold f_X6_size
      rw [X6_noreg h1, zbd_s, if_neg (by decide)]
    · unfold f_X7_size
      rw [X7_noreg h1, zbd_s, if_pos rfl]
