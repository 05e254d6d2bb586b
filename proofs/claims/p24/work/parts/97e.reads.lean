/-! put(): both sides read the text -/
/-- what the class's reading leaves alone -/
def aFs (t : Nat) (I I' : zI) : Prop := ∀ x, x ≠ 6 → x ≠ 12 → x ≠ 13 → x ≠ 14 → x ≠ t → x ≠ t + 1 → x ≠ t + 2 → x ≠ t + 3 → I' x = I x
theorem aFm_tr {J J' J'' : zI} (h : aFm J J') (h' : aFm J' J'') : aFm J J'' := ⟨fun x a b c d e => (h'.1 x a b c d e).trans (h.1 x a b c d e), fun y hy => (h'.2.1 y hy).trans (h.2.1 y hy), fun y hy => (h'.2.2 y hy).trans (h.2.2 y hy)⟩
theorem aB_iff {X Y : Nat → Int32} {b : Nat} (h : ∀ i, i < b → X i = Y i) (i : Nat) {x : Int32} (h0 : x ≠ 0) (h9 : x ≠ -9) : aB X b i = x ↔ aBm Y b i = x := by
  unfold aB aBm
  by_cases hi : i < b
  · rw [if_pos hi, if_pos hi, h i hi]
  · rw [if_neg hi, if_neg hi]
    exact ⟨fun e => absurd e.symm h0, fun e => absurd e.symm h9⟩
section ZPE
variable {F : Nat} {K : zK} {I : zI} {R : zR} {J : zI} {RM : zR} {t b n D p : Nat} {s g r o q hs : Nat → Nat}
theorem X5_sortOf_k {T : Tm} {i : Nat} (h : zTk K I R t T) (hN : tNc T) (hn : tn T ≤ 32) (hi : i < tn T) : f_X5_sortOf F K I R t (nI i) = some (nI (ts T i)) := by
  obtain ⟨h1, h2, h3, h4, h5, h6, h7, h8, h9⟩ := h
  obtain ⟨c1, c2, -⟩ := tcode_ltc hN hi
  unfold f_X5_sortOf
  rw [if_neg (nI_pos (by omega)), h8, if_neg (nI_ge hi (by omega)), h5, zbd_s, zdr_s (t := 1) (by rw [h2]), zbd_s, zrd_s (by rw [h2]; show i < 32; omega) (by rw [h2]; decide), zbd_s, h9 i hi, nI_shr8 _ c1, c2]
theorem X2_opens (hK : ∀ a, a < 89 → K a = zKt a) (hP : aPc K I R t b n s g r D o q hs p) (hA : aOk b n s g r D o q hs p) (hn : 1 ≤ n) (hD : D ≤ 7) :
    ((aB (I 1) b p = 40 ∧ s (n - 1) ≠ 3) → ∃ I1, f_X2_opens F K I R 6 = some (1, I1) ∧ aPc K I1 R t b n s g r (D + 1) (aUp o D (n - 1)) (aUp q D 0) hs (p + 1) ∧ aFr t I I1) ∧ (¬ (aB (I 1) b p = 40 ∧ s (n - 1) ≠ 3) → f_X2_opens F K I R 6 = some (0, I)) := by
  obtain ⟨hT, ht, ⟨r0, r4, r6, r7, r8⟩, ⟨i1, i2, i5⟩, c12, c13, c14⟩ := hP
  obtain ⟨a1, a2, a3, a4, a5, a6, a7, a8⟩ := hA
  have k12 : K 12 = (1, 8) := hK 12 (by decide)
  have k13 : K 13 = (2, 8) := hK 13 (by decide)
  have k15 : (K t).1 = 15 := by rw [hT.1]
  have t8 : I t 3 = nI n := hT.2.2.2.2.2.2.2.1
  have eS : f_X5_sortOf F K I R t (nI (n - 1)) = some (nI (s (n - 1))) := X5_sortOf_k hT a5 a1 (show n - 1 < n by omega)
  have hs4 : s (n - 1) ≤ 3 := (a5 (n - 1) (show n - 1 < n by omega)).1
  have z12 : zln K 12 = nI 8 := by unfold zln; rw [k12]; rfl
  have z13 : zln K 13 = nI 8 := by unfold zln; rw [k13]; rfl
  obtain ⟨I1, hI1⟩ : ∃ x : zI, x = zup (zup (zup (zup I 12 D (nI (n - 1))) 13 D 0) 6 5 (nI (D + 1))) 6 2 (nI (p + 1)) := ⟨_, rfl⟩
  have eO : f_X2_opens F K I R 6 = if aB (I 1) b p = 40 then (if nI (s (n - 1)) = 3 then some (0, I) else some (1, I1)) else some (0, I) := by
    unfold f_X2_opens
    have w1 : zwr K I 12 (nI D) (nI (n - 1)) = some (zup I 12 D (nI (n - 1))) := zwr_s (by rw [k12]; show D < 8; omega) (by rw [k12]; decide)
    have w2 : zwrZ K (zup I 12 D (nI (n - 1))) 13 (nI D) 0 = some (zup (zup I 12 D (nI (n - 1))) 13 D 0) := zwrZ_s (by rw [k13]; show D < 8; omega) (by rw [k13]; decide) (Or.inl rfl)
    rw [i2, X2_byteAt hK r0 i1 a3 (by omega), zbd_s, i5, if_neg (show ¬ (nI D < 0) from nI_pos (by omega)), r6, zbd_s, zdr_s (t := 1) (by rw [k12]), zbd_s, z12, if_neg (show ¬ (nI 8 ≤ nI D) from nI_ge (by omega) (by decide)), r7, zbd_s, zdr_s (t := 2) (by rw [k13]), zbd_s, z13, if_neg (show ¬ (nI 8 ≤ nI D) from nI_ge (by omega) (by decide)), r4, zbd_s, zbd_s, zdr_s k15, zbd_s, zbd_s, t8, aPrd hn, eS, zbd_s, zbd_s, zbd_s, zdr_s k15, zbd_s, zdr_s (t := 1) (by rw [k12]), zbd_s, t8, aPrd hn, w1, zbd_s, zbd_s, zdr_s (t := 2) (by rw [k13]), zbd_s, zup_ne _ _ _ (show (6 : Nat) ≠ 12 by decide), i5, w2, zbd_s, zbd_s, zbd_s, zup_ne _ _ _ (show (6 : Nat) ≠ 13 by decide), zup_ne _ _ _ (show (6 : Nat) ≠ 12 by decide), i5, nI_1, zup_self_ne _ _ _ (show (2 : Nat) ≠ 5 by decide), zup_ne _ _ _ (show (6 : Nat) ≠ 13 by decide), zup_ne _ _ _ (show (6 : Nat) ≠ 12 by decide), i2, nI_1, ← hI1]
  have f1 : ∀ x, x ≠ 6 → x ≠ 12 → x ≠ 13 → I1 x = I x := fun x y1 y2 y3 => by rw [hI1, zup_ne _ _ _ y1, zup_ne _ _ _ y1, zup_ne _ _ _ y3, zup_ne _ _ _ y2]
  constructor
  · rintro ⟨h1, h2⟩
    refine ⟨I1, by rw [eO, if_pos h1, if_neg (fun e => h2 ((ni3 (by omega)).mp e))], ?_, fun x x1 x2 x3 _ _ _ => f1 x x1 x2 x3⟩
    refine ⟨zTk_row hT (f1 t (by omega) (by omega) (by omega)) (f1 (t + 1) (by omega) (by omega) (by omega)), ht, ⟨r0, r4, r6, r7, r8⟩, ⟨?_, ?_, ?_⟩, fun k hk => ?_, fun k hk => ?_, fun h hh => ?_⟩
    · rw [hI1, zup_self_ne _ _ _ (by decide), zup_self_ne _ _ _ (by decide), zup_ne _ _ _ (by decide), zup_ne _ _ _ (by decide)]; exact i1
    · rw [hI1, zup_self]
    · rw [hI1, zup_self_ne _ _ _ (by decide), zup_self]
    · rw [hI1, zup_ne _ _ _ (by decide), zup_ne _ _ _ (by decide), zup_ne _ _ _ (by decide)]
      unfold aUp
      by_cases e : k = D
      · rw [e, zup_self, if_pos rfl]
      · rw [zup_self_ne _ _ _ e, if_neg e]; exact c12 k (by omega)
    · rw [hI1, zup_ne _ _ _ (by decide), zup_ne _ _ _ (by decide)]
      unfold aUp
      by_cases e : k = D
      · rw [e, zup_self, if_pos rfl]; rfl
      · rw [zup_self_ne _ _ _ e, if_neg e, zup_ne _ _ _ (by decide)]; exact c13 k (by omega)
    · rw [f1 14 (by decide) (by decide) (by decide)]; exact c14 h hh
  · intro h
    rw [eO]
    by_cases h1 : aB (I 1) b p = 40
    · rw [if_pos h1, if_pos ((ni3 (by omega)).mpr (Classical.byContradiction fun e => h ⟨h1, e⟩))]
    · rw [if_neg h1]
theorem X7_359 (hRM : zRM RM) (hP : aPm J b n s g r D o q hs p) (hn : 1 ≤ n) (hn2 : n ≤ 32) (hb : b ≤ 80) (hp : p ≤ b) (hD : D ≤ 7) {so : Nat} (hso : so ≤ 3) :
    ((aBm (J 91) b (p + if so = 3 then 2 else 1) = 40 ∧ so ≠ 3) → ∃ J1, f_X7_begins_359 F zKm RM 89 J (nI so) (some 89) (nI p) (if so = 3 then 2 else 1) = some (1, J1) ∧ aPm J1 b n s g r (D + 1) (aUp o D (n - 1)) (aUp q D 0) hs ((p + if so = 3 then 2 else 1) + 1) ∧ aFm J J1 ∧ J1 89 14 = 1 ∧ J1 89 4 = J 89 4) ∧
    (¬ (aBm (J 91) b (p + if so = 3 then 2 else 1) = 40 ∧ so ≠ 3) → ∃ J1, f_X7_begins_359 F zKm RM 89 J (nI so) (some 89) (nI p) (if so = 3 then 2 else 1) = some (1, J1) ∧ aPm J1 b n s g r D o q hs (p + if so = 3 then 2 else 1) ∧ aFm J J1 ∧ J1 89 14 = J 89 14 ∧ J1 89 4 = J 89 4) := by
  obtain ⟨⟨j3, j12, j13⟩, hTm, c98, c990, c99, c97⟩ := hP
  have r0 : RM 89 0 = some 90 := hRM 89 0 (by decide) (by decide) (by decide)
  have r10 : RM 89 10 = some 97 := hRM 89 10 (by decide) (by decide) (by decide)
  have r11 : RM 89 11 = some 98 := hRM 89 11 (by decide) (by decide) (by decide)
  have t0 : J 90 5460 = nI n := hTm.1
  obtain ⟨p', hp'⟩ : ∃ p', p' = p + if so = 3 then 2 else 1 := ⟨_, rfl⟩
  have hpw : nI p + (if so = 3 then 2 else 1 : Int32) = nI p' := by
    by_cases e : so = 3
    · rw [hp', if_pos e, if_pos e, nl2, nI_add]
    · rw [hp', if_neg e, if_neg e, nI_1]
  have hp2 : p' ≤ 82 := by
    by_cases e : so = 3
    · rw [hp', if_pos e]; omega
    · rw [hp', if_neg e]; omega
  rw [← hp']
  obtain ⟨J0, hJ0⟩ : ∃ x : zI, x = zup J 89 13 (nI p') := ⟨_, rfl⟩
  have f0 : ∀ x, x ≠ 89 → J0 x = J x := fun x hx => by rw [hJ0, zup_ne _ _ _ hx]
  have h0 : ∀ y, y ≠ 13 → J0 89 y = J 89 y := fun y hy => by rw [hJ0, zup_self_ne _ _ _ hy]
  obtain ⟨J1, hJ1⟩ : ∃ x : zI, x = zup (zup (zup (zup (zup J0 89 12 (nI (D + 1))) 97 (D + 1) (nI (n - 1))) 98 (D + 1) 0) 89 13 (nI (p' + 1))) 89 14 1 := ⟨_, rfl⟩
  have eR : f_X7_begins_359 F zKm RM 89 J (nI so) (some 89) (nI p) (if so = 3 then 2 else 1) = if aBm (J 91) b p' = 40 then (if nI so = 3 then some (1, J0) else some (1, J1)) else some (1, J0) := by
    unfold f_X7_begins_359
    have w1 : zwr zKm (zup J0 89 12 (nI (D + 1))) 97 (nI (D + 1)) (nI (n - 1)) = some (zup (zup J0 89 12 (nI (D + 1))) 97 (D + 1) (nI (n - 1))) := zwr_s (by show D + 1 < 9; omega) (by decide)
    have w2 : zwrZ zKm (zup (zup J0 89 12 (nI (D + 1))) 97 (D + 1) (nI (n - 1))) 98 (nI (D + 1)) 0 = some (zup (zup (zup J0 89 12 (nI (D + 1))) 97 (D + 1) (nI (n - 1))) 98 (D + 1) 0) := zwrZ_s (by show D + 1 < 9; omega) (by decide) (Or.inl rfl)
    rw [zdr_s (t := 17) rfl, zbd_s, hpw, zbd_s, ← hJ0, show J0 89 13 = nI p' by rw [hJ0, zup_self], X7_byteAt hRM (show J0 89 3 = nI b by rw [h0 3 (by decide)]; exact j3) hb (by omega), zbd_s, f0 91 (by decide), h0 12 (by decide), j12, nI_1, zbd_s, r10, zbd_s, r0, zbd_s, zd91, zbd_s]
    rw [show (5460 : Int32) = nI 5460 from rfl, zrd_s (by rw [zKm91]; decide) (by decide), zbd_s, zdr_s (t := 1) rfl, zbd_s, zup_self, zup_ne _ _ _ (show (90 : Nat) ≠ 89 by decide), f0 90 (by decide), t0, aPrd hn, w1, zbd_s, r11, zbd_s, zdr_s (t := 2) rfl, zbd_s, zup_ne _ _ _ (show (89 : Nat) ≠ 97 by decide), zup_self, w2, zbd_s, zup_ne _ _ _ (show (89 : Nat) ≠ 98 by decide), zup_ne _ _ _ (show (89 : Nat) ≠ 97 by decide), zup_self_ne _ _ _ (show (13 : Nat) ≠ 12 by decide), show J0 89 13 = nI p' by rw [hJ0, zup_self], nI_1, zbd_s, zbd_s, ← hJ1]
  have g1 : ∀ x, x ≠ 89 → x ≠ 97 → x ≠ 98 → J1 x = J x := fun x y1 y2 y3 => by rw [hJ1, zup_ne _ _ _ y1, zup_ne _ _ _ y1, zup_ne _ _ _ y3, zup_ne _ _ _ y2, zup_ne _ _ _ y1, f0 x y1]
  have g90 : ∀ y, y ≠ 12 → y ≠ 13 → y ≠ 14 → J1 89 y = J 89 y := fun y y1 y2 y3 => by
    rw [hJ1, zup_self_ne _ _ _ y3, zup_self_ne _ _ _ y2, zup_ne _ _ _ (by decide), zup_ne _ _ _ (by decide), zup_self_ne _ _ _ y1, h0 y y2]
  constructor
  · rintro ⟨h1, h2⟩
    refine ⟨J1, by rw [eR, if_pos h1, if_neg (fun e => h2 ((ni3 (by omega)).mp e))], ⟨⟨?_, ?_, ?_⟩, by rw [g1 90 (by decide) (by decide) (by decide)]; exact hTm, fun k hk => ?_, ?_, fun k hk => ?_, fun h hh => ?_⟩, ⟨fun x x1 x2 x3 x4 x5 => g1 x x1 x4 x5, fun y _ => by rw [g1 90 (by decide) (by decide) (by decide)], fun y hy => g90 y (by omega) (by omega) (by omega)⟩, by rw [hJ1, zup_self], g90 4 (by decide) (by decide) (by decide)⟩
    · rw [g90 3 (by decide) (by decide) (by decide)]; exact j3
    · rw [hJ1, zup_self_ne _ _ _ (by decide), zup_self_ne _ _ _ (by decide), zup_ne _ _ _ (by decide), zup_ne _ _ _ (by decide), zup_self]
    · rw [hJ1, zup_self_ne _ _ _ (by decide), zup_self]
    · rw [hJ1, zup_ne _ _ _ (by decide), zup_ne _ _ _ (by decide), zup_ne _ _ _ (by decide)]
      unfold aUp
      by_cases e : k = D
      · rw [e, zup_self, if_pos rfl]
      · rw [zup_self_ne _ _ _ (by omega), if_neg e, zup_ne _ _ _ (by decide), f0 97 (by decide)]; exact c98 k (by omega)
    · rw [hJ1, zup_ne _ _ _ (by decide), zup_ne _ _ _ (by decide), zup_self_ne _ _ _ (by omega), zup_ne _ _ _ (by decide), zup_ne _ _ _ (by decide), f0 98 (by decide)]; exact c990
    · rw [hJ1, zup_ne _ _ _ (by decide), zup_ne _ _ _ (by decide)]
      unfold aUp
      by_cases e : k = D
      · rw [e, zup_self, if_pos rfl]; rfl
      · rw [zup_self_ne _ _ _ (by omega), if_neg e, zup_ne _ _ _ (by decide), zup_ne _ _ _ (by decide), f0 98 (by decide)]; exact c99 k (by omega)
    · rw [g1 96 (by decide) (by decide) (by decide)]; exact c97 h hh
  · intro h
    refine ⟨J0, ?_, ⟨⟨by rw [h0 3 (by decide)]; exact j3, by rw [h0 12 (by decide)]; exact j12, by rw [hJ0, zup_self]⟩, by rw [f0 90 (by decide)]; exact hTm, by rw [f0 97 (by decide)]; exact c98, by rw [f0 98 (by decide)]; exact c990, by rw [f0 98 (by decide)]; exact c99, by rw [f0 96 (by decide)]; exact c97⟩, ⟨fun x x1 _ _ _ _ => f0 x x1, fun y _ => by rw [f0 90 (by decide)], fun y hy => h0 y (by omega)⟩, h0 14 (by decide), h0 4 (by decide)⟩
    rw [eR]
    by_cases h1 : aBm (J 91) b p' = 40
    · rw [if_pos h1, if_pos ((ni3 (by omega)).mpr (Classical.byContradiction fun e => h ⟨h1, e⟩))]
    · rw [if_neg h1]
/-- begins() of the reference -/
theorem X7_begins (hRM : zRM RM) (hP : aPm J b n s g r D o q hs p) (hb : b ≤ 80) (hp : p ≤ b) : (∀ v so x2 x3 c1, aHd (aBm (J 91) b p) c1 D v so x2 x3 → f_X7_begins F zKm J RM 89 = f_X7_begins_43 F zKm RM 89 J (aBm (J 91) b p) x3) ∧ ((¬ ∃ v, v ≤ 12 ∧ aBm (J 91) b p = nI (97 + v)) → (¬ ∃ v, v ≤ 9 ∧ aBm (J 91) b p = nI (48 + v)) → f_X7_begins F zKm J RM 89 = some (0, zup (zup J 89 4 1) 89 13 (nI p))) := by
  obtain ⟨⟨j3, j12, j13⟩, -⟩ := hP
  have eB := X7_byteAt (F := F) hRM j3 hb (show p < 2 ^ 31 by omega)
  generalize hc : aBm (J 91) b p = c at eB ⊢
  have eI : ∀ x y : Int32, f_X7_in F zKm J RM c x y = if c < x then some 0 else if y < c then some 0 else some 1 := fun x y => rfl
  constructor
  · rintro v so x2 x3 c1 (⟨d2, d3, d1, d4, d5⟩ | ⟨d2, d3, d1, d4, d5⟩)
    · have n1 : ¬ c < 48 := fun e => by rw [d1] at e; exact absurd (show (48 : Int32) ≤ nI (97 + v) from nI_le (a := 48) (by omega) (by omega)) (Int32.not_le.mpr e)
      have n2 : (57 : Int32) < c := by rw [d1]; exact nI_lt (a := 57) (by omega) (by omega)
      have n3 : ¬ c < 97 := fun e => by rw [d1] at e; exact absurd (show (97 : Int32) ≤ nI (97 + v) from nI_le (a := 97) (by omega) (by omega)) (Int32.not_le.mpr e)
      have n4 : ¬ (109 : Int32) < c := fun e => by rw [d1] at e; exact absurd (show nI (97 + v) ≤ (109 : Int32) from nI_le (b := 109) (by omega) (by decide)) (Int32.not_le.mpr e)
      unfold f_X7_begins
      rw [j13, eB, zbd_s, eI, if_neg n1, if_pos n2, zbd_s, if_pos rfl, eI, if_neg n3, if_neg n4, zbd_s, if_neg (show ¬ ((1 : Int32) = 0) by decide), d3]
    · have n1 : ¬ c < 48 := fun e => by rw [d1] at e; exact absurd (show (48 : Int32) ≤ nI (48 + v) from nI_le (a := 48) (by omega) (by omega)) (Int32.not_le.mpr e)
      have n2 : ¬ (57 : Int32) < c := fun e => by rw [d1] at e; exact absurd (show nI (48 + v) ≤ (57 : Int32) from nI_le (b := 57) (by omega) (by decide)) (Int32.not_le.mpr e)
      unfold f_X7_begins
      rw [j13, eB, zbd_s, eI, if_neg n1, if_neg n2, zbd_s, if_neg (show ¬ ((1 : Int32) = 0) by decide), d3]
  · intro h1 h2
    have i1 : f_X7_in F zKm J RM c 48 57 = some 0 := by
      rw [eI]
      by_cases e1 : c < 48
      · rw [if_pos e1]
      · rw [if_neg e1]
        by_cases e2 : (57 : Int32) < c
        · rw [if_pos e2]
        · exfalso
          obtain ⟨j, j1, j2⟩ := zrange (x := c) (M := 57) (n := 57) rfl ⟨Int32.le_trans (by decide) (Int32.not_lt.mp e1), Int32.not_lt.mp e2⟩
          have j3 : 48 ≤ j := by
            rcases Nat.lt_or_ge j 48 with h | h
            · exfalso
              rw [j2] at e1
              exact e1 (nI_lt (b := 48) h (by decide))
            · exact h
          exact h2 ⟨j - 48, by omega, by rw [j2, show 48 + (j - 48) = j by omega]⟩
    have i2 : f_X7_in F zKm J RM c 97 109 = some 0 := by
      rw [eI]
      by_cases e1 : c < 97
      · rw [if_pos e1]
      · rw [if_neg e1]
        by_cases e2 : (109 : Int32) < c
        · rw [if_pos e2]
        · exfalso
          obtain ⟨j, j1, j2⟩ := zrange (x := c) (M := 109) (n := 109) rfl ⟨Int32.le_trans (by decide) (Int32.not_lt.mp e1), Int32.not_lt.mp e2⟩
          have j3 : 97 ≤ j := by
            rcases Nat.lt_or_ge j 97 with h | h
            · exfalso
              rw [j2] at e1
              exact e1 (nI_lt (b := 97) h (by decide))
            · exact h
          exact h1 ⟨j - 97, by omega, by rw [j2, show 97 + (j - 97) = j by omega]⟩
    unfold f_X7_begins
    rw [j13, eB, zbd_s, i1, zbd_s, if_pos rfl, i2, zbd_s, if_pos rfl]
    rfl
end ZPE
