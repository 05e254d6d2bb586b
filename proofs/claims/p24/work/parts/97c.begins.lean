/-! put(): begins() of the reference -/
def aBm (X : Nat → Int32) (b i : Nat) : Int32 := if i < b then X i else -9
/-- the reference's parser -/
def aPm (J : zI) (b n : Nat) (s g r : Nat → Nat) (D : Nat) (o q hs : Nat → Nat) (p : Nat) : Prop :=
  (J 89 3 = nI b ∧ J 89 12 = nI D ∧ J 89 13 = nI p) ∧ zTm (J 90) 5460 (aTm n s g r) ∧ (∀ k, k < D → J 97 (k + 1) = nI (o k)) ∧ J 98 0 = 0 ∧ (∀ k, k < D → J 98 (k + 1) = nI (q k)) ∧ ∀ h, h < 10 → J 96 h = nI (hs h)
/-- what the reference's parser leaves alone -/
def aFm (J J' : zI) : Prop := (∀ x, x ≠ 89 → x ≠ 90 → x ≠ 96 → x ≠ 97 → x ≠ 98 → J' x = J x) ∧ (∀ y, y < 5460 ∨ 5557 ≤ y → J' 90 y = J 90 y) ∧ ∀ y, y = 1 ∨ y = 3 → J' 89 y = J 89 y
section ZPC
variable {F : Nat} {J : zI} {RM : zR} {b n D p : Nat} {s g r o q hs : Nat → Nat}
theorem X7_byteAt (hRM : zRM RM) (h3 : J 89 3 = nI b) (hb : b ≤ 80) {i : Nat} (hi : i < 2 ^ 31) : f_X7_byteAt F zKm J RM 89 (nI i) = some (aBm (J 91) b i) := by
  have r2 : RM 89 2 = some 91 := hRM 89 2 (by decide) (by decide) (by decide)
  unfold f_X7_byteAt aBm
  rw [h3]
  by_cases h : i < b
  · rw [if_neg (nI_ge h (by omega)), r2, zbd_s, zdr_s (t := 1) rfl, zbd_s, zrd_s (by show i < 80; omega) (by decide), zbd_s, if_pos h]
  · rw [if_pos (nI_le (by omega) hi), if_neg h]
theorem X7_43 (hRM : zRM RM) (hP : aPm J b n s g r D o q hs p) (hA : aOk b n s g r D o q hs p) {v so : Nat} {x1 x2 x3 : Int32} (hd : aHd x1 (aBm (J 91) b (p + 1)) D v so x2 x3) :
    ((0 < D ∧ r (o (D - 1)) = 8) → f_X7_begins_43 F zKm RM 89 J x1 x3 = some (0, zup (zup J 89 4 2) 89 13 (nI p))) ∧
    (¬ (0 < D ∧ r (o (D - 1)) = 8) → (n = 32 ∨ D = 8) → f_X7_begins_43 F zKm RM 89 J x1 x3 = some (0, zup (zup J 89 4 3) 89 13 (nI p))) ∧
    (¬ (0 < D ∧ r (o (D - 1)) = 8) → ¬ (n = 32 ∨ D = 8) → aCl D q hs so v → f_X7_begins_43 F zKm RM 89 J x1 x3 = some (0, zup (zup J 89 4 4) 89 13 (nI p))) ∧
    (¬ (0 < D ∧ r (o (D - 1)) = 8) → ¬ (n = 32 ∨ D = 8) → ¬ aCl D q hs so v → ∃ J1, f_X7_begins_43 F zKm RM 89 J x1 x3 = f_X7_begins_359 F zKm RM 89 J1 (nI so) (some 89) (nI p) (if so = 3 then 2 else 1) ∧ aPm J1 b (n + 1) (aUp s n so) (aUp g n v) (aRn r n D o) D o (if so = 3 then aUp q (D - 1) 1 else q) (if so = 0 then hs else aUp hs v so) p ∧ aFm J J1 ∧ J1 89 = J 89) := by
  have hP0 := hP
  obtain ⟨⟨j3, j12, j13⟩, hTm, c98, c990, c99, c97⟩ := hP
  have hA0 := hA
  obtain ⟨a1, a2, a3, a4, a5, a6, a7, a8⟩ := hA
  have r0 : RM 89 0 = some 90 := hRM 89 0 (by decide) (by decide) (by decide)
  have r9 : RM 89 9 = some 96 := hRM 89 9 (by decide) (by decide) (by decide)
  have r10 : RM 89 10 = some 97 := hRM 89 10 (by decide) (by decide) (by decide)
  have r11 : RM 89 11 = some 98 := hRM 89 11 (by decide) (by decide) (by decide)
  have t0 : J 90 5460 = nI n := hTm.1
  have hv12 : v ≤ 12 := by rcases hd with ⟨-, -, -, h, -⟩ | ⟨-, -, -, h, -⟩ <;> omega
  have hso3 : so ≤ 3 := by
    rcases hd with ⟨-, -, -, -, h⟩ | ⟨-, -, -, -, h⟩
    · omega
    · have := (aHs_is (aBm (J 91) b (p + 1)) D).1; omega
  have hso3D : so = 3 → 0 < D := fun e => by
    rcases hd with ⟨-, -, -, -, h⟩ | ⟨-, -, -, -, h⟩
    · omega
    · exact (aHs_is (aBm (J 91) b (p + 1)) D).2 (by rw [← h]; exact e)
  have e43 : f_X7_begins_43 F zKm RM 89 J x1 x3 = if 0 < D ∧ r (o (D - 1)) = 8 then some (0, zup (zup J 89 4 2) 89 13 (nI p)) else f_X7_begins_81 F zKm RM 89 J x1 x3 := by
    unfold f_X7_begins_43
    rw [j12]
    by_cases hD : 0 < D
    · have ho := a6 (D - 1) (by omega)
      have h8' : r (o (D - 1)) ≤ 8 := (a5 _ ho).2.1
      have eo := c98 (D - 1) (by omega)
      rw [show D - 1 + 1 = D by omega] at eo
      rw [if_neg (show ¬ (nI D ≤ (0 : Int32)) from nI_nle hD (by omega)), r10, zbd_s, zdr_s (t := 1) rfl, zbd_s, zrd_s (by show D < 9; omega) (by decide), zbd_s, eo, show (5460 : Int32) = nI 5460 from rfl, X7_arguments r0 (by decide) hTm a1 ho, zbd_s]
      by_cases h : r (o (D - 1)) = 8
      · rw [if_pos (show nI (tr (aTm n s g r) (o (D - 1))) = 8 from by show nI (r (o (D - 1))) = 8; rw [h]; rfl), if_pos ⟨hD, h⟩, j13]
        rfl
      · rw [if_neg (show ¬ nI (tr (aTm n s g r) (o (D - 1))) = 8 from fun e => h (nI_inj (a := r (o (D - 1))) (b := 8) (by omega) (by decide) e)), if_neg (show ¬ (0 < D ∧ r (o (D - 1)) = 8) from fun e => h e.2)]
    · rw [if_pos (show nI D ≤ (0 : Int32) from nI_le (b := 0) (by omega) (by decide)), if_neg (show ¬ (0 < D ∧ r (o (D - 1)) = 8) from fun e => hD e.1)]
  have e81 : f_X7_begins_81 F zKm RM 89 J x1 x3 = if n = 32 ∨ D = 8 then some (0, zup (zup J 89 4 3) 89 13 (nI p)) else f_X7_begins_160 F zKm RM 89 J x1 x3 (nI so) := by
    have e103 : f_X7_begins_103 F zKm RM 89 J = some (0, zup (zup J 89 4 3) 89 13 (nI p)) := by
      unfold f_X7_begins_103
      rw [j13]
      rfl
    unfold f_X7_begins_81 f_X7_begins_159
    rw [e103, r0, zbd_s, zd91, zbd_s, show (5460 : Int32) = nI 5460 from rfl, zrd_s (by rw [zKm91]; decide) (by decide), zbd_s, t0]
    by_cases hn : n = 32
    · rw [if_pos (show nI n = 32 by rw [hn]; rfl), if_pos (show n = 32 ∨ D = 8 from Or.inl hn)]
    · rw [if_neg (show ¬ nI n = 32 from fun e => hn (nI_inj (b := 32) (by omega) (by decide) e)), j12]
      by_cases hD : D = 8
      · rw [if_neg (show ¬ (nI D ≤ 7) by rw [hD]; decide), if_pos (show n = 32 ∨ D = 8 from Or.inr hD)]
      · rw [if_pos (show nI D ≤ (7 : Int32) from nI_le (b := 7) (by omega) (by decide)), if_neg (show ¬ (n = 32 ∨ D = 8) from fun e => e.elim hn hD), j13, nI_1, X7_byteAt hRM j3 a3 (by omega), zbd_s]
        rcases hd with ⟨h2, h3, h1, h4, h5⟩ | ⟨h2, h3, h1, h4, h5⟩
        · rw [h3, if_pos rfl, h5]
          rfl
        · rw [h3, if_neg (show ¬ ((1 : Int32) = 0) by decide), h5]
          unfold aHs
          by_cases e1 : aBm (J 91) b (p + 1) = 40
          · rw [if_pos e1, if_pos e1]
            rfl
          · rw [if_neg e1, if_neg e1]
            by_cases e2 : aBm (J 91) b (p + 1) = 42
            · rw [if_pos e2, if_pos e2]
              by_cases e3 : D = 0
              · rw [if_pos (show nI D ≤ (0 : Int32) from nI_le (b := 0) (by omega) (by decide)), if_pos e3]
                rfl
              · rw [if_neg (show ¬ (nI D ≤ (0 : Int32)) from nI_nle (by omega) (by omega)), if_neg e3]
                rfl
            · rw [if_neg e2, if_neg e2]
              rfl
  have e210 : f_X7_begins_210 F zKm RM 89 J = some (0, zup (zup J 89 4 4) 89 13 (nI p)) := by
    unfold f_X7_begins_210
    rw [j13]
    rfl
  have hqD : J 98 D = if D = 0 then 0 else nI (q (D - 1)) := by
    by_cases e : D = 0
    · rw [if_pos e, e]; exact c990
    · rw [if_neg e]
      have := c99 (D - 1) (by omega)
      rw [show D - 1 + 1 = D by omega] at this
      exact this
  have e192 : f_X7_begins_192 F zKm RM 89 J x1 x3 (nI so) = if so = 3 ∧ q (D - 1) = 1 then some (0, zup (zup J 89 4 4) 89 13 (nI p)) else f_X7_begins_220 F zKm RM 89 J x1 x3 (nI so) := by
    unfold f_X7_begins_192
    by_cases e3 : so = 3
    · have hD := hso3D e3
      have hq1 := a7 (D - 1) (by omega)
      rw [if_pos ((ni3 (by omega)).mpr e3), r11, zbd_s, zdr_s (t := 2) rfl, zbd_s, j12, zrd_s (by show D < 9; omega) (by decide), zbd_s, hqD, if_neg (show ¬ D = 0 by omega), e210]
      by_cases h1 : q (D - 1) = 1
      · rw [if_neg (show ¬ nI (q (D - 1)) = 0 by rw [h1]; decide), if_pos (show so = 3 ∧ q (D - 1) = 1 from ⟨e3, h1⟩)]
      · rw [if_pos (show nI (q (D - 1)) = 0 by rw [show q (D - 1) = 0 by omega]; rfl), if_neg (show ¬ (so = 3 ∧ q (D - 1) = 1) from fun e => h1 e.2)]
    · rw [if_neg (fun e => e3 ((ni3 (by omega)).mp e)), if_neg (show ¬ (so = 3 ∧ q (D - 1) = 1) from fun e => e3 e.1)]
  have e160 : f_X7_begins_160 F zKm RM 89 J x1 x3 (nI so) = if so ≠ 0 ∧ hs v ≠ 0 ∧ hs v ≠ so then some (0, zup (zup J 89 4 4) 89 13 (nI p)) else f_X7_begins_192 F zKm RM 89 J x1 x3 (nI so) := by
    unfold f_X7_begins_160
    rcases hd with ⟨h2, h3, h1, h4, h5⟩ | ⟨h2, h3, h1, h4, h5⟩
    · rw [h3, if_pos rfl, if_neg (show ¬ (so ≠ 0 ∧ hs v ≠ 0 ∧ hs v ≠ so) from fun e => e.1 h5)]
    · have hh := a8 v (by omega)
      have hs0 : so ≠ 0 := by have := (aHs_is (aBm (J 91) b (p + 1)) D).1; omega
      rw [h3, if_neg (show ¬ ((1 : Int32) = 0) by decide), r9, zbd_s, zdr_s (t := 1) rfl, zbd_s, h1, show nI (48 + v) - (48 : Int32) = nI v from by rw [show (48 : Int32) = nI 48 from rfl, nI_sub (by omega), Nat.add_sub_cancel_left], zrd_s (by show v < 10; omega) (by decide), zbd_s, c97 v (by omega), e210]
      by_cases k0 : hs v = 0
      · rw [if_pos (show nI (hs v) ≤ (0 : Int32) from nI_le (b := 0) (by omega) (by decide)), if_neg (show ¬ (so ≠ 0 ∧ hs v ≠ 0 ∧ hs v ≠ so) from fun e => e.2.1 k0)]
      · rw [if_neg (show ¬ (nI (hs v) ≤ (0 : Int32)) from nI_nle (by omega) (by omega)), zbd_s, zdr_s (t := 1) rfl, zbd_s, zrd_s (by show v < 10; omega) (by decide), zbd_s, c97 v (by omega)]
        by_cases k1 : hs v = so
        · rw [if_pos (show nI (hs v) = nI so by rw [k1]), if_neg (show ¬ (so ≠ 0 ∧ hs v ≠ 0 ∧ hs v ≠ so) from fun e => e.2.2 k1)]
        · rw [if_neg (show ¬ nI (hs v) = nI so from fun e => k1 (nI_inj (by omega) (by omega) e)), if_pos (show so ≠ 0 ∧ hs v ≠ 0 ∧ hs v ≠ so from ⟨hs0, k0, k1⟩)]
  rw [e43]
  refine ⟨fun h => if_pos h, fun h h2 => by rw [if_neg h, e81, if_pos h2], fun h h2 h3 => ?_, fun h h2 h3 => ?_⟩
  · rw [if_neg h, e81, if_neg h2, e160]
    rcases h3.2 with c | c
    · rw [if_pos ⟨h3.1, c⟩]
    · rw [e192, if_pos c]
      by_cases k : so ≠ 0 ∧ hs v ≠ 0 ∧ hs v ≠ so
      · rw [if_pos k]
      · rw [if_neg k]
  · have n1 : ¬ (so ≠ 0 ∧ hs v ≠ 0 ∧ hs v ≠ so) := fun e => h3 ⟨e.1, Or.inl e.2⟩
    have n2 : ¬ (so = 3 ∧ q (D - 1) = 1) := fun e => h3 ⟨by omega, Or.inr e⟩
    have hn : n < 32 := by omega
    have hD8 : D < 8 := by omega
    rw [if_neg h, e81, if_neg h2, e160, if_neg n1, e192, if_neg n2]
    -- the sort of the hole
    obtain ⟨J1, hJ1⟩ : ∃ x : zI, x = if so = 0 then J else zup J 96 v (nI so) := ⟨_, rfl⟩
    have e220 : f_X7_begins_220 F zKm RM 89 J x1 x3 (nI so) = f_X7_begins_235 F zKm RM 89 J1 x1 x3 (nI so) := by
      unfold f_X7_begins_220
      rcases hd with ⟨d2, d3, d1, d4, d5⟩ | ⟨d2, d3, d1, d4, d5⟩
      · rw [d3, if_pos rfl, hJ1, if_pos d5]
      · have hs0 : so ≠ 0 := by have := (aHs_is (aBm (J 91) b (p + 1)) D).1; omega
        rw [d3, if_neg (show ¬ ((1 : Int32) = 0) by decide), r9, zbd_s, zdr_s (t := 1) rfl, zbd_s, d1, show nI (48 + v) - (48 : Int32) = nI v from by rw [show (48 : Int32) = nI 48 from rfl, nI_sub (by omega), Nat.add_sub_cancel_left], zwr_s (by show v < 10; omega) (by decide), zbd_s, hJ1, if_neg hs0]
    have f1 : ∀ x, x ≠ 96 → J1 x = J x := fun x hx => by
      rw [hJ1]
      by_cases e : so = 0
      · rw [if_pos e]
      · rw [if_neg e, zup_ne _ _ _ hx]
    obtain ⟨qv, hqv⟩ : ∃ x : Int32, x = if so = 3 then 1 else J 98 D := ⟨_, rfl⟩
    obtain ⟨J2, hJ2⟩ : ∃ x : zI, x = zup J1 98 D qv := ⟨_, rfl⟩
    have hq01 : J 98 D = 0 ∨ J 98 D = 1 := by
      rw [hqD]
      by_cases e : D = 0
      · rw [if_pos e]; exact Or.inl rfl
      · rw [if_neg e]
        have := a7 (D - 1) (by omega)
        rcases (show q (D - 1) = 0 ∨ q (D - 1) = 1 by omega) with e | e
        · rw [e]; exact Or.inl rfl
        · rw [e]; exact Or.inr rfl
    have hnum : (if x3 = (0 : Int32) then x1 - (97 : Int32) else x1 - (48 : Int32)) = nI v := by
      rcases hd with ⟨d2, d3, d1, d4, d5⟩ | ⟨d2, d3, d1, d4, d5⟩
      · rw [d3, if_pos rfl, d1, nl97, nI_sub (by omega), Nat.add_sub_cancel_left]
      · rw [d3, if_neg (by decide), d1, show (48 : Int32) = nI 48 from rfl, nI_sub (by omega), Nat.add_sub_cancel_left]
    have e266 : ∀ w : Int32, (w = 0 ∨ w = 1) → f_X7_begins_266 F zKm RM 89 J1 x1 x3 (nI so) (some 98) (nI D) w = f_X7_begins_296 F zKm RM 89 (zup J1 98 D w) (nI so) (some 89) (nI 5460) (nI n) (nI so) (nI v) := fun w hw => by
      unfold f_X7_begins_266
      rw [zdr_s (t := 2) rfl, zbd_s, zwrZ_s (by show D < 9; omega) (by decide) hw, zbd_s, r0, zbd_s, zd91, zbd_s, show (5460 : Int32) = nI 5460 from rfl, zrd_s (by rw [zKm91]; decide) (by decide), zbd_s, zup_nb _ _ _ (by decide), f1 90 (by decide), t0, ← hnum]
      by_cases e : x3 = 0
      · rw [if_pos e, if_pos e]
      · rw [if_neg e, if_neg e]
    have e235 : f_X7_begins_235 F zKm RM 89 J1 x1 x3 (nI so) = f_X7_begins_296 F zKm RM 89 J2 (nI so) (some 89) (nI 5460) (nI n) (nI so) (nI v) := by
      unfold f_X7_begins_235 f_X7_begins_261
      rw [r11, zbd_s, zbd_s, zdr_s (t := 2) rfl, zbd_s, f1 89 (by decide), j12, zrd_s (by show D < 9; omega) (by decide), zbd_s, f1 98 (by decide), e266 0 (Or.inl rfl), e266 1 (Or.inr rfl), hJ2, hqv]
      by_cases e3 : so = 3
      · rw [if_pos (show nI so = 3 from (ni3 (by omega)).mpr e3), if_pos e3]
        by_cases e : J 98 D = 0
        · rw [if_pos e]
        · rw [if_neg e]
      · rw [if_neg (show ¬ nI so = 3 from fun e => e3 ((ni3 (by omega)).mp e)), if_neg e3]
        rcases hq01 with e | e
        · rw [e, if_pos rfl]
        · rw [e, if_neg (by decide)]
    have f2 : ∀ x, x ≠ 96 → x ≠ 98 → J2 x = J x := fun x h1 h2 => by rw [hJ2, zup_ne _ _ _ h2, f1 x h1]
    obtain ⟨J3, hJ3⟩ : ∃ x : zI, x = zup (zup (zup (zup J2 90 (5460 + 1 + 3 * n) (nI so)) 90 (5460 + 2 + 3 * n) (nI v)) 90 (5460 + 3 + 3 * n) 0) 90 5460 (nI (n + 1)) := ⟨_, rfl⟩
    obtain ⟨J4, hJ4⟩ : ∃ x : zI, x = if 0 < D then zup J3 90 (5463 + 3 * o (D - 1)) (nI (r (o (D - 1)) + 1)) else J3 := ⟨_, rfl⟩
    have f3 : ∀ x, x ≠ 90 → J3 x = J2 x := fun x hx => by rw [hJ3, zup_ne _ _ _ hx, zup_ne _ _ _ hx, zup_ne _ _ _ hx, zup_ne _ _ _ hx]
    have f4 : ∀ x, x ≠ 90 → J4 x = J2 x := fun x hx => by
      rw [hJ4]
      by_cases e : 0 < D
      · rw [if_pos e, zup_ne _ _ _ hx, f3 x hx]
      · rw [if_neg e, f3 x hx]
    have g3 : ∀ y, y ≠ 5460 → y ≠ 5460 + 1 + 3 * n → y ≠ 5460 + 2 + 3 * n → y ≠ 5460 + 3 + 3 * n → J3 90 y = J 90 y := fun y y1 y2 y3 y4 => by
      rw [hJ3, zup_self_ne _ _ _ y1, zup_self_ne _ _ _ y4, zup_self_ne _ _ _ y3, zup_self_ne _ _ _ y2, f2 90 (by decide) (by decide)]
    have e296 : f_X7_begins_296 F zKm RM 89 J2 (nI so) (some 89) (nI 5460) (nI n) (nI so) (nI v) = f_X7_begins_343 F zKm RM 89 J4 (nI so) := by
      unfold f_X7_begins_296
      rw [zdr_s (t := 17) rfl, zbd_s, X7_writes hRM (by decide) hn, zbd_s, r0, zbd_s, zd91, zbd_s, show (5460 : Int32) = nI 5460 from rfl, zrd_s (by rw [zKm91]; decide) (by decide), zbd_s, zwr_s (by rw [zKm91]; decide) (by decide), zbd_s, zup_self_ne _ _ _ (by omega), zup_self_ne _ _ _ (by omega), zup_self_ne _ _ _ (by omega), f2 90 (by decide) (by decide), t0, nI_1, ← hJ3, f3 89 (by decide), f2 89 (by decide) (by decide), j12]
      by_cases hD : 0 < D
      · have ho := a6 (D - 1) (by omega)
        have eo := c98 (D - 1) (by omega)
        rw [show D - 1 + 1 = D by omega] at eo
        have er := (hTm.2 _ ho).2.2
        rw [show 5460 + 3 + 3 * o (D - 1) = 5463 + 3 * o (D - 1) by omega] at er
        rw [if_neg (show ¬ (nI D ≤ (0 : Int32)) from nI_nle hD (by omega)), zbd_s, r10, zbd_s, zdr_s (t := 1) rfl, zbd_s, zrd_s (by show D < 9; omega) (by decide), zbd_s, f3 97 (by decide), f2 97 (by decide) (by decide), eo, zd91, zbd_s, nl3, nI_mul, show (5463 : Int32) = nI 5463 from rfl, nI_add, zrd_s (by rw [zKm91]; show _ < 5751; omega) (by decide), zbd_s, zwr_s (by rw [zKm91]; show _ < 5751; omega) (by decide), zbd_s, g3 _ (by omega) (by omega) (by omega) (by omega), er, nI_1, hJ4, if_pos hD]
        rfl
      · rw [if_pos (show nI D ≤ (0 : Int32) from nI_le (b := 0) (by omega) (by decide)), hJ4, if_neg hD]
    refine ⟨J4, ?_, ?_, ?_, by rw [f4 89 (by decide), f2 89 (by decide) (by decide)]⟩
    · rw [e220, e235, e296]
      unfold f_X7_begins_343
      rw [f4 89 (by decide), f2 89 (by decide) (by decide), j13]
      by_cases e3 : so = 3
      · rw [if_pos (show nI so = 3 from (ni3 (by omega)).mpr e3), if_pos e3]
      · rw [if_neg (show ¬ nI so = 3 from fun e => e3 ((ni3 (by omega)).mp e)), if_neg e3]
    · have e90 : J4 89 = J 89 := by rw [f4 89 (by decide), f2 89 (by decide) (by decide)]
      have g4 : ∀ y, y ≠ 5463 + 3 * o (D - 1) → J4 90 y = J3 90 y := fun y hy => by
        rw [hJ4]
        by_cases hD : 0 < D
        · rw [if_pos hD, zup_self_ne _ _ _ hy]
        · rw [if_neg hD]
      refine ⟨by rw [e90]; exact ⟨j3, j12, j13⟩, ⟨?_, fun i hi => ?_⟩, fun k hk => ?_, ?_, fun k hk => ?_, fun h hh => ?_⟩
      · rw [g4 5460 (by omega), hJ3, zup_self]
        rfl
      · have hi' : i < n + 1 := hi
        show J4 90 (5460 + 1 + 3 * i) = nI (aUp s n so i) ∧ J4 90 (5460 + 2 + 3 * i) = nI (aUp g n v i) ∧ J4 90 (5460 + 3 + 3 * i) = nI (aRn r n D o i)
        unfold aUp aRn
        by_cases hin : i = n
        · subst hin
          have hne : 0 < D → o (D - 1) < i := fun hD => a6 (D - 1) (by omega)
          have g5 : J4 90 (5460 + 3 + 3 * i) = J3 90 (5460 + 3 + 3 * i) := by
            rw [hJ4]
            by_cases hD : 0 < D
            · have := hne hD
              rw [if_pos hD, zup_self_ne _ _ _ (by omega)]
            · rw [if_neg hD]
          rw [g4 _ (by omega), g4 _ (by omega), g5, hJ3, if_pos rfl, if_pos rfl, if_pos rfl]
          refine ⟨?_, ?_, ?_⟩
          · rw [zup_self_ne _ _ _ (by omega), zup_self_ne _ _ _ (by omega), zup_self_ne _ _ _ (by omega), zup_self]
          · rw [zup_self_ne _ _ _ (by omega), zup_self_ne _ _ _ (by omega), zup_self]
          · rw [zup_self_ne _ _ _ (by omega), zup_self]
            rfl
        · obtain ⟨y1, y2, y3⟩ := hTm.2 i (show i < n by omega)
          rw [if_neg hin, if_neg hin, if_neg hin, g4 _ (by omega), g4 _ (by omega), g3 _ (by omega) (by omega) (by omega) (by omega), g3 _ (by omega) (by omega) (by omega) (by omega)]
          refine ⟨y1, y2, ?_⟩
          by_cases ho : 0 < D ∧ i = o (D - 1)
          · rw [if_pos ho, hJ4, if_pos ho.1, ← ho.2, show 5460 + 3 + 3 * i = 5463 + 3 * i by omega, zup_self]
          · rw [if_neg ho]
            have g6 : J4 90 (5460 + 3 + 3 * i) = J3 90 (5460 + 3 + 3 * i) := by
              rw [hJ4]
              by_cases hD : 0 < D
              · rw [if_pos hD, zup_self_ne _ _ _ (fun e => ho ⟨hD, by omega⟩)]
              · rw [if_neg hD]
            rw [g6, g3 _ (by omega) (by omega) (by omega) (by omega)]
            exact y3
      · rw [f4 97 (by decide), f2 97 (by decide) (by decide)]
        exact c98 k hk
      · rw [f4 98 (by decide), hJ2]
        by_cases e : D = 0
        · rw [e, zup_self, hqv, if_neg (fun e3 => by have := hso3D e3; omega), e]
          exact c990
        · rw [zup_self_ne _ _ _ (fun z => e z.symm), f1 98 (by decide)]
          exact c990
      · rw [f4 98 (by decide), hJ2]
        by_cases e : k + 1 = D
        · have ek : k = D - 1 := by omega
          rw [e, zup_self, hqv]
          by_cases e3 : so = 3
          · rw [if_pos e3, if_pos e3]
            unfold aUp
            rw [if_pos ek]
            rfl
          · rw [if_neg e3, if_neg e3, ← e]
            exact c99 k hk
        · rw [zup_self_ne _ _ _ e, f1 98 (by decide)]
          by_cases e3 : so = 3
          · rw [if_pos e3]
            unfold aUp
            rw [if_neg (show ¬ k = D - 1 by omega)]
            exact c99 k hk
          · rw [if_neg e3]
            exact c99 k hk
      · rw [f4 96 (by decide), hJ2, zup_nb _ _ _ (by decide), hJ1]
        by_cases e : so = 0
        · rw [if_pos e, if_pos e]
          exact c97 h hh
        · rw [if_neg e, if_neg e]
          unfold aUp
          by_cases hv : h = v
          · rw [hv, zup_self, if_pos rfl]
          · rw [zup_self_ne _ _ _ hv, if_neg hv]
            exact c97 h hh
    · refine ⟨fun x x1 x2 x3 x4 x5 => by rw [f4 x x2, f2 x x3 x5], fun y hy => ?_, fun y _ => by rw [f4 89 (by decide), f2 89 (by decide) (by decide)]⟩
      have g5 : J4 90 y = J3 90 y := by
        rw [hJ4]
        by_cases hD : 0 < D
        · have := a6 (D - 1) (by omega)
          rw [if_pos hD, zup_self_ne _ _ _ (by omega)]
        · rw [if_neg hD]
      rw [g5, g3 y (by omega) (by omega) (by omega) (by omega)]
end ZPC
