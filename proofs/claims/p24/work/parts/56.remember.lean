/-! remember() and records() together -/
theorem zK_fix {K : zK} {R : zR} (h : zCf K R) : K 0 = (16, 0) ∧ K 5 = (3, 6) ∧ R 0 3 = some 2 ∧ R 0 4 = some 5 :=
  ⟨h.1 0 (by omega), h.1 5 (by omega), h.2 0 3 (by unfold zFin; omega), h.2 0 4 (by unfold zFin; omega)⟩
theorem rem74 {F : Nat} (hF : 100 ≤ F) {K : zK} {I : zI} {R : zR} (h : zCf K R) {g s : Nat} (hg : g < 6) (hI : I 0 5 = nI g) (hs : R 5 g = some s) (hz : zHa s) (hk : ∀ r, r < 8 → ∀ u, R 3 r = some u → (K u).1 = 15) :
    f_X6_remember_74 F K 0 I R = some (zup (zrw I (s + 2) 0 4 (I 4)) 0 5 (nI (g + 1)), zrw R (s + 1) 0 8 (R 3)) := by
  obtain ⟨k0, k5, r3, r4⟩ := zK_fix h
  unfold f_X6_remember_74
  have e1 : zln K 5 - 1 = nI 5 := by simp only [zln, k5]; rfl
  rw [r4, zbd_s, zdr_s (t := 3) (by rw [k5]), zbd_s, hI, e1, zo_0 ⟨nI_pos' (by omega), nI_le (by omega) (by omega)⟩, zbd_s, if_pos rfl, zbd_s, zdr_s (t := 3) (by rw [k5]), zbd_s, zrdR_s (by rw [k5]; exact hg) (by rw [k5]; decide), zbd_s, hs, zcs_s, r3, zbd_s, if_pos (by rw [(zSt_cell h (Or.inr hz)).1]), X4_copy hF h (Or.inr hz) (Or.inl rfl) hk, zbd2_s, zbd_s]
  rw [show zrw I (s + 2) 0 4 (I (2 + 2)) 0 5 = I 0 5 from by rw [zrw_ne _ _ _ _ (by omega)], hI, nI_1]
def zsh (R : zR) (x : Nat) (x1 : Option Nat) : zR := fun b j => if b = 5 ∧ x ≤ j + 1 ∧ j < 5 then R 5 (j + 1) else if b = 5 ∧ j = 5 then x1 else R b j
theorem zCf_5 {K : zK} {R R' : zR} (h : zCf K R) (hr : ∀ b, b ≠ 5 → R' b = R b) : zCf K R' := zCf_row h (fun a k hf => by rw [hr a (by unfold zFin at hf; omega)])
theorem rem21 {F : Nat} {K : zK} {I : zI} {x1 : Option Nat} (hx1 : ∀ b, x1 = some b → (K b).1 = 14) : ∀ (d x t : Nat) (R : zR), x + d = 6 → 1 ≤ x → d < t → zCf K R → (∀ j, j < 6 → ∀ a, R 5 j = some a → (K a).1 = 14) →
    f_X6_remember_21 F K 0 t I R x1 (nI x) = f_X6_remember_74 F K 0 (zup I 0 5 (nI 5)) (zsh R x x1) := by
  intro d
  induction d with
  | zero =>
    intro x t R hx hx0 ht h hp
    obtain ⟨k0, k5, r3, r4⟩ := zK_fix h
    obtain ⟨t, rfl⟩ : ∃ u, t = u + 1 := ⟨t - 1, by omega⟩
    show g_X6_remember_21 F K 0 _ I R x1 (nI x) = _
    unfold g_X6_remember_21
    have e1 : zln K 5 - 1 = nI 5 := by simp only [zln, k5]; rfl
    have hR5 : zup R 5 5 x1 0 4 = some 5 := by rw [zup_ne _ _ _ (by decide)]; exact r4
    rw [r4, zbd_s, zdr_s (t := 3) (by rw [k5]), zbd_s, if_pos (by simp only [zln, k5]; exact nI_le (a := 6) (by omega) (by omega)), zbd_s, zbd_s, zdr_s (t := 3) (by rw [k5]), zbd_s, zbd_s, e1, zwrR_s (by rw [k5]; decide) (by rw [k5]; decide) hx1, zbd_s, hR5, zbd_s, zdr_s (t := 3) (by rw [k5]), zbd_s, zbd_s, e1]
    congr 1
    funext b j
    simp only [zup, zsh]
    by_cases h1 : b = 5 ∧ j = 5
    · rw [if_pos h1, if_neg (by omega)]
    · rw [if_neg h1, if_neg (by omega)]
  | succ d ih =>
    intro x t R hx hx0 ht h hp
    obtain ⟨k0, k5, r3, r4⟩ := zK_fix h
    obtain ⟨t, rfl⟩ : ∃ u, t = u + 1 := ⟨t - 1, by omega⟩
    show g_X6_remember_21 F K 0 _ I R x1 (nI x) = _
    unfold g_X6_remember_21
    rw [r4, zbd_s, zdr_s (t := 3) (by rw [k5]), zbd_s, if_neg (by simp only [zln, k5]; exact nI_ge (b := 6) (by omega) (by omega)), zbd_s, zbd_s, zdr_s (t := 3) (by rw [k5]), zbd_s, zrdR_s (by rw [k5]; show x < 6; omega) (by rw [k5]; decide), zbd_s, zbd_s, show (1 : Int32) = nI 1 from rfl, nI_sub hx0, zwrR_s (by rw [k5]; show x - 1 < 6; omega) (by rw [k5]; decide) (hp x (by omega)), zbd_s, nI_add]
    rw [ih (x + 1) t _ (by omega) (by omega) (by omega) (zCf_5 h (fun b hb => zup_ne _ _ _ hb)) (fun j hj a ha => by
      rw [zup_row] at ha
      split at ha
      · exact hp x (by omega) a ha
      · exact hp j hj a ha)]
    congr 1
    funext b j
    simp only [zup, zsh]
    by_cases hb : b = 5
    · subst hb
      by_cases h1 : x + 1 ≤ j + 1 ∧ j < 5
      · rw [if_pos ⟨rfl, h1⟩, if_neg (by omega), if_pos ⟨rfl, by omega⟩]
      · rw [if_neg (fun q => h1 q.2)]
        by_cases h2 : j = 5
        · rw [if_pos ⟨rfl, h2⟩, if_neg (by omega), if_pos ⟨rfl, h2⟩]
        · rw [if_neg (by omega)]
          by_cases h3 : j = x - 1
          · rw [if_pos ⟨rfl, h3⟩, if_pos (by omega), h3]
            rw [show x - 1 + 1 = x from by omega]
          · rw [if_neg (by omega), if_neg (by omega), if_neg (by omega)]
    · rw [if_neg (by omega), if_neg (by omega), if_neg (by omega), if_neg (by omega), if_neg (by omega)]
theorem zSim_cf {k : Nat} {K : zK} {I : zI} {R : zR} {n : Nat} {KM : zK} {J : zI} {RM : zR} (h : zSim k K I R n KM J RM) : zCf K R := ⟨h.1.2.1, h.1.2.2.2.2.1⟩
theorem zSt_kinds {K : zK} {I : zI} {R : zR} {n a : Nat} {P : Nat → Int32} {o : Nat} (h : zSt K I R n a P o) : ∀ r, r < 8 → ∀ u, R (a + 1) r = some u → (K u).1 = 15 := by
  intro r hr u hu
  have h1 := h.1 r hr
  rw [hu] at h1
  obtain ⟨-, -, T, -, hT, -⟩ := h1
  rw [hT.1]
/-- what remember() and records() leave as it was -/
def zRemF (s : Nat) (I I' : zI) (R R' : zR) (J J' : zI) : Prop :=
  zHa s ∧ (∀ b, b ≠ 0 → b ≠ s + 2 → I' b = I b) ∧ (∀ q, q ≠ 5 → I' 0 q = I 0 q) ∧ (∀ b, b ≠ 5 → b ≠ s + 1 → R' b = R b) ∧ (∀ b, b ≠ 89 → b ≠ 90 → J' b = J b) ∧ (∀ q, q ≠ 1 → J' 89 q = J 89 q) ∧ ∀ q, q < 780 ∨ 5460 ≤ q → J' 90 q = J 90 q
theorem zRem {F : Nat} (hF : 5000 ≤ F) {k : Nat} {K : zK} {I : zI} {R : zR} {n : Nat} {KM : zK} {J : zI} {RM : zR} (hS : zSim k K I R n KM J RM) :
    ∃ I' R' J' s, f_X6_remember F K I R 0 = some (I', R') ∧ f_X7_records F KM J RM 89 = some J' ∧ zSim k K I' R' n KM J' RM ∧ zRemF s I I' R R' J J' := by
  have hcf := zSim_cf hS
  obtain ⟨k0, k5, r3, r4⟩ := zK_fix hcf
  obtain ⟨⟨hn, hK, hK2, hK3, hR, hKM, hRM⟩, htx, hfk, hst, g, hg, hg1, hg2, hpast, hinj⟩ := hS
  have hRM0 : RM 89 0 = some 90 := hRM 89 0 (by decide) (by decide) (by decide)
  have hkd := zSt_kinds hst
  have hfin5 : ∀ a j, zFin a j → a ≠ 5 := fun a j hf => by unfold zFin at hf; omega
  have hP : ∀ q, q < 780 → zrec g (J 90) q = J 90 q := by
    intro q hq
    unfold zrec
    by_cases h6 : g < 6
    · rw [if_pos h6, if_neg (by omega)]
    · rw [if_neg h6, if_neg (by omega), if_neg (by omega)]
  have hP2 : ∀ q, 5460 ≤ q → zrec g (J 90) q = J 90 q := by
    intro q hq
    unfold zrec
    by_cases h6 : g < 6
    · rw [if_pos h6, if_neg (by omega)]
    · rw [if_neg h6, if_neg (by omega), if_neg (by omega)]
  have hrec : f_X7_records F KM J RM 89 = some (zpg (zup J 89 1 (nI (if g < 6 then g + 1 else 6))) (zrec g (J 90))) := by
    rw [hKM]
    exact records_eq F hF hRM0 hg hg2
  generalize hJ' : zpg (zup J 89 1 (nI (if g < 6 then g + 1 else 6))) (zrec g (J 90)) = J' at hrec
  have hJ91 : J' 90 = zrec g (J 90) := by rw [← hJ', zpg_91]
  have hJne : ∀ b, b ≠ 89 → b ≠ 90 → J' b = J b := fun b h1 h2 => by rw [← hJ', zpg_ne _ _ h2, zup_ne _ _ _ h1]
  have hJ90 : ∀ q, q ≠ 1 → J' 89 q = J 89 q := fun q hq => by rw [← hJ', zpg_ne _ _ (by decide), zup_self_ne _ _ _ hq]
  have hJ1 : J' 89 1 = nI (if g < 6 then g + 1 else 6) := by rw [← hJ', zpg_ne _ _ (by decide), zup_self]
  by_cases h6 : g < 6
  · obtain ⟨s, hs, hz, -⟩ := hpast g h6
    have hz' := hz
    unfold zHa at hz'
    refine ⟨zup (zrw I (s + 2) 0 4 (I 4)) 0 5 (nI (g + 1)), zrw R (s + 1) 0 8 (R 3), J', s, ?_, hrec, ?_, hz, ?_, ?_, ?_, hJne, hJ90, ?_⟩
    · unfold f_X6_remember
      rw [r4, zbd_s, zdr_s (t := 3) (by rw [k5]), zbd_s, if_pos (by simp only [zln, k5]; rw [hg1]; exact nI_lt (b := 6) h6 (by omega))]
      exact rem74 (by omega) hcf h6 hg1 hs hz hkd
    · have hIr : ∀ b, b ≠ 0 → b ≠ s + 2 → zup (zrw I (s + 2) 0 4 (I 4)) 0 5 (nI (g + 1)) b = I b := fun b h1 h2 => by rw [zup_ne _ _ _ h1, zrw_ne _ _ _ _ h2]
      have hRr : ∀ b, b ≠ s + 1 → zrw R (s + 1) 0 8 (R 3) b = R b := fun b h1 => zrw_ne _ _ _ _ h1
      have hkeep : ∀ b, 92 ≤ b → b < n → K b = K b ∧ zup (zrw I (s + 2) 0 4 (I 4)) 0 5 (nI (g + 1)) b = I b ∧ zrw R (s + 1) 0 8 (R 3) b = R b := fun b h1 h2 => ⟨rfl, hIr b (by omega) (by omega), hRr b (by omega)⟩
      refine ⟨⟨hn, hK, hK2, hK3, fun a j hf => ?_, hKM, hRM⟩, ?_, ?_, ?_, g + 1, by omega, zup_self _ _ _ _, ?_, fun j hj => ?_, fun i j hi hj hij => ?_⟩
      · rw [hRr a (zFin_reg (Or.inr hz) hf)]
        exact hR a j hf
      · obtain ⟨b, hb, hb1, hb2, htx⟩ := htx
        refine ⟨b, hb, ?_, ?_, fun i hi => ?_⟩
        · rw [zup_self_ne _ _ _ (by decide), zrw_ne _ _ _ _ (by omega)]; exact hb1
        · rw [hJ90 3 (by decide)]; exact hb2
        · rw [hIr 1 (by decide) (by omega), hJne 91 (by decide) (by decide)]; exact htx i hi
      · rw [zup_self_ne _ _ _ (by decide), zrw_ne _ _ _ _ (by omega), hJ90 4 (by decide)]; exact hfk
      · refine zSt_keep hst (Nat.le_refl _) hkeep (fun r hr => ?_) (fun j hj => ?_) (fun q hq => ?_)
        · rw [hRr 3 (by omega)]
        · rw [hIr 4 (by decide) (by omega)]
        · rw [hJ91]; exact hP _ (by omega)
      · rw [hJ1, if_pos h6]
      · obtain ⟨a, ha, hza, hsta⟩ := hpast j hj
        refine ⟨a, by rw [hRr 5 (by omega)]; exact ha, hza, fun hlt => ?_⟩
        have hza' := hza
        unfold zHa at hza'
        by_cases hjg : j = g
        · subst hjg
          have e : a = s := Option.some.inj (ha.symm.trans hs)
          subst e
          refine zSt_keep hst (Nat.le_refl _) hkeep (fun r hr => ?_) (fun j' hj' => ?_) (fun q hq => ?_)
          · exact zrw_in _ _ _ (Nat.zero_le _) hr
          · rw [zup_ne _ _ _ (by omega)]
            exact zrw_in _ _ _ (Nat.zero_le _) hj'
          · rw [hJ91]
            unfold zrec
            rw [if_pos h6, if_pos (by omega)]
            rw [show 780 * (j + 1) + q - 780 * (j + 1) = 0 + q from by omega]
        · have hne : a ≠ s := fun e => hjg (hinj j g hj h6 (by rw [ha, hs, e]))
          refine zSt_keep (hsta (by omega)) (Nat.le_refl _) hkeep (fun r hr => ?_) (fun j' hj' => ?_) (fun q hq => ?_)
          · rw [hRr (a + 1) (by omega)]
          · rw [hIr (a + 2) (by omega) (by omega)]
          · rw [hJ91]
            unfold zrec
            rw [if_pos h6, if_neg (by omega)]
      · rw [hRr 5 (by omega)] at hij
        exact hinj i j hi hj hij
    · exact fun b h1 h2 => by rw [zup_ne _ _ _ h1, zrw_ne _ _ _ _ h2]
    · exact fun q hq => by rw [zup_self_ne _ _ _ hq, zrw_ne _ _ _ _ (by omega)]
    · exact fun b h1 h2 => zrw_ne _ _ _ _ h2
    · intro q hq
      rw [hJ91]
      rcases hq with hq | hq
      · exact hP q hq
      · exact hP2 q hq
  · have hg6 : g = 6 := by omega
    subst hg6
    obtain ⟨s, hs, hz, -⟩ := hpast 0 (by omega)
    have hz' := hz
    unfold zHa at hz'
    have hks : ∀ j, j < 6 → ∀ a, R 5 j = some a → (K a).1 = 14 := fun j hj a ha => by
      obtain ⟨b, hb, hzb, -⟩ := hpast j hj
      have e : a = b := Option.some.inj (ha.symm.trans hb)
      subst e
      rw [(zSt_cell hcf (Or.inr hzb)).1]
    have hsh5 : ∀ j, j < 6 → zsh R 1 (some s) 5 j = if j < 5 then R 5 (j + 1) else some s := fun j hj => by
      unfold zsh
      by_cases h5 : j < 5
      · rw [if_pos ⟨rfl, by omega, h5⟩, if_pos h5]
      · rw [if_neg (by omega), if_pos ⟨rfl, by omega⟩, if_neg h5]
    have hshne : ∀ b, b ≠ 5 → zsh R 1 (some s) b = R b := fun b hb => by
      funext j
      unfold zsh
      rw [if_neg (by omega), if_neg (by omega)]
    have hcf' : zCf K (zsh R 1 (some s)) := zCf_5 hcf hshne
    have h3 : zsh R 1 (some s) 3 = R 3 := hshne 3 (by decide)
    have hres : f_X6_remember F K I R 0 = some (zup (zrw (zup I 0 5 (nI 5)) (s + 2) 0 4 (zup I 0 5 (nI 5) 4)) 0 5 (nI (5 + 1)), zrw (zsh R 1 (some s)) (s + 1) 0 8 (zsh R 1 (some s) 3)) := by
      unfold f_X6_remember
      rw [r4, zbd_s, zdr_s (t := 3) (by rw [k5]), zbd_s, if_neg (by simp only [zln, k5]; rw [hg1]; exact nI_nlt (a := 6) (b := 6) (by omega) (by omega)), zbd_s, zdr_s (t := 3) (by rw [k5]), zbd_s, show (0 : Int32) = nI 0 from rfl, zrdR_s (by rw [k5]; decide) (by rw [k5]; decide), zbd_s, hs, show (1 : Int32) = nI 1 from rfl]
      rw [rem21 (fun b hb => hks 0 (by omega) b (by rw [hs]; exact hb)) 5 1 F R (by omega) (by omega) (by omega) hcf hks]
      exact rem74 (by omega) hcf' (by omega) (zup_self _ _ _ _) (by rw [hsh5 5 (by omega), if_neg (by omega)]) hz (fun r hr u hu => hkd r hr u (by rw [h3] at hu; exact hu))
    have hIr : ∀ b, b ≠ 0 → b ≠ s + 2 → zup (zrw (zup I 0 5 (nI 5)) (s + 2) 0 4 (zup I 0 5 (nI 5) 4)) 0 5 (nI (5 + 1)) b = I b := fun b h1 h2 => by rw [zup_ne _ _ _ h1, zrw_ne _ _ _ _ h2, zup_ne _ _ _ h1]
    have hI0 : ∀ q, q ≠ 5 → zup (zrw (zup I 0 5 (nI 5)) (s + 2) 0 4 (zup I 0 5 (nI 5) 4)) 0 5 (nI (5 + 1)) 0 q = I 0 q := fun q hq => by rw [zup_self_ne _ _ _ hq, zrw_ne _ _ _ _ (by omega), zup_self_ne _ _ _ hq]
    have hRr : ∀ b, b ≠ 5 → b ≠ s + 1 → zrw (zsh R 1 (some s)) (s + 1) 0 8 (zsh R 1 (some s) 3) b = R b := fun b h1 h2 => by rw [zrw_ne _ _ _ _ h2, hshne b h1]
    have hR5 : ∀ j, j < 6 → zrw (zsh R 1 (some s)) (s + 1) 0 8 (zsh R 1 (some s) 3) 5 j = if j < 5 then R 5 (j + 1) else some s := fun j hj => by rw [zrw_ne _ _ _ _ (by omega)]; exact hsh5 j hj
    refine ⟨_, _, J', s, hres, hrec, ?_, hz, hIr, hI0, hRr, hJne, hJ90, ?_⟩
    · have hkeep : ∀ b, 92 ≤ b → b < n → K b = K b ∧ zup (zrw (zup I 0 5 (nI 5)) (s + 2) 0 4 (zup I 0 5 (nI 5) 4)) 0 5 (nI (5 + 1)) b = I b ∧ zrw (zsh R 1 (some s)) (s + 1) 0 8 (zsh R 1 (some s) 3) b = R b := fun b h1 h2 => ⟨rfl, hIr b (by omega) (by omega), hRr b (by omega) (by omega)⟩
      refine ⟨⟨hn, hK, hK2, hK3, fun a j hf => ?_, hKM, hRM⟩, ?_, ?_, ?_, 6, by omega, zup_self _ _ _ _, ?_, fun j hj => ?_, fun i j hi hj hij => ?_⟩
      · rw [hRr a (hfin5 a j hf) (zFin_reg (Or.inr hz) hf)]
        exact hR a j hf
      · obtain ⟨b, hb, hb1, hb2, htx⟩ := htx
        refine ⟨b, hb, ?_, ?_, fun i hi => ?_⟩
        · rw [hI0 1 (by decide)]; exact hb1
        · rw [hJ90 3 (by decide)]; exact hb2
        · rw [hIr 1 (by decide) (by omega), hJne 91 (by decide) (by decide)]; exact htx i hi
      · rw [hI0 2 (by decide), hJ90 4 (by decide)]; exact hfk
      · refine zSt_keep hst (Nat.le_refl _) hkeep (fun r hr => ?_) (fun j hj => ?_) (fun q hq => ?_)
        · rw [hRr 3 (by decide) (by omega)]
        · rw [hIr 4 (by decide) (by omega)]
        · rw [hJ91]; exact hP _ (by omega)
      · rw [hJ1, if_neg (by omega)]
      · by_cases h5 : j < 5
        · obtain ⟨a, ha, hza, hsta⟩ := hpast (j + 1) (by omega)
          have hza' := hza
          unfold zHa at hza'
          refine ⟨a, by rw [hR5 j hj, if_pos h5]; exact ha, hza, fun _ => ?_⟩
          have hne : a ≠ s := fun e => by
            have := hinj (j + 1) 0 (by omega) (by omega) (by rw [ha, hs, e])
            omega
          refine zSt_keep (hsta (by omega)) (Nat.le_refl _) hkeep (fun r hr => ?_) (fun j' hj' => ?_) (fun q hq => ?_)
          · rw [hRr (a + 1) (by omega) (by omega)]
          · rw [hIr (a + 2) (by omega) (by omega)]
          · rw [hJ91]
            unfold zrec
            rw [if_neg (by omega), if_pos (by omega)]
            rw [show 780 * (j + 1) + q + 780 = 780 * (j + 1 + 1) + q from by omega]
        · have hj5 : j = 5 := by omega
          subst hj5
          refine ⟨s, by rw [hR5 5 (by omega), if_neg (by omega)], hz, fun _ => ?_⟩
          refine zSt_keep hst (Nat.le_refl _) hkeep (fun r hr => ?_) (fun j' hj' => ?_) (fun q hq => ?_)
          · rw [zrw_in _ _ _ (Nat.zero_le _) hr, h3]
          · rw [zup_ne _ _ _ (by omega), zrw_in _ _ _ (Nat.zero_le _) hj', zup_ne _ _ _ (by decide)]
          · rw [hJ91]
            unfold zrec
            rw [if_neg (by omega), if_neg (by omega), if_pos (by omega)]
            rw [show 780 * (5 + 1) + q - 4680 = 0 + q from by omega]
      · rw [hR5 i hi, hR5 j hj] at hij
        by_cases h1 : i < 5 <;> by_cases h2 : j < 5
        · rw [if_pos h1, if_pos h2] at hij
          have := hinj (i + 1) (j + 1) (by omega) (by omega) hij
          omega
        · rw [if_pos h1, if_neg h2, ← hs] at hij
          have := hinj (i + 1) 0 (by omega) (by omega) hij
          omega
        · rw [if_neg h1, if_pos h2, ← hs] at hij
          have := hinj 0 (j + 1) (by omega) (by omega) hij
          omega
        · omega
    · intro q hq
      rw [hJ91]
      rcases hq with hq | hq
      · exact hP q hq
      · exact hP2 q hq
