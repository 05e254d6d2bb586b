/-! the class's head of a node, whole; the node opens -/
/-- the sort of a hole by the byte behind it -/
def aHs (c : Int32) (D : Nat) : Nat := if c = 40 then 2 else if c = 42 then (if D = 0 then 1 else 3) else 1
section ZPB
variable {F : Nat} {K : zK} {I : zI} {R : zR} {t b n D p : Nat} {s g r o q hs : Nat → Nat}
theorem aHs_is (c : Int32) (D : Nat) : (aHs c D = 1 ∨ aHs c D = 2 ∨ aHs c D = 3) ∧ (aHs c D = 3 → 0 < D) := by
  unfold aHs
  by_cases h1 : c = 40
  · rw [if_pos h1]; exact ⟨Or.inr (Or.inl rfl), fun e => by omega⟩
  · rw [if_neg h1]
    by_cases h2 : c = 42
    · rw [if_pos h2]
      by_cases h3 : D = 0
      · rw [if_pos h3]; exact ⟨Or.inl rfl, fun e => by omega⟩
      · rw [if_neg h3]; exact ⟨Or.inr (Or.inr rfl), fun e => by omega⟩
    · rw [if_neg h2]; exact ⟨Or.inl rfl, fun e => by omega⟩
theorem X2_holeSort (i5 : I 6 5 = nI D) (hD : D ≤ 8) (c : Int32) : f_X2_holeSort F K I R 6 c = some (nI (aHs c D)) := by
  unfold f_X2_holeSort aHs
  by_cases h1 : c = 40
  · rw [if_pos h1, if_pos h1]; rfl
  · rw [if_neg h1, if_neg h1]
    by_cases h2 : c = 42
    · rw [if_pos h2, if_pos h2, i5]
      by_cases h3 : D = 0
      · rw [if_pos h3, if_pos (show nI D ≤ (0 : Int32) from nI_le (b := 0) (by omega) (by decide))]; rfl
      · rw [if_neg h3, if_neg (show ¬ (nI D ≤ (0 : Int32)) from nI_nle (by omega) (by omega))]; rfl
    · rw [if_neg h2, if_neg h2]; rfl
/-- what the byte at the position is: flags, number, sort -/
def aHd (c c1 : Int32) (D v so : Nat) (x2 x3 : Int32) : Prop := (x2 = 1 ∧ x3 = 0 ∧ c = nI (97 + v) ∧ v ≤ 12 ∧ so = 0) ∨ (x2 = 0 ∧ x3 = 1 ∧ c = nI (48 + v) ∧ v ≤ 9 ∧ so = aHs c1 D)
/-- the class's Reader, and the rows that it leaves alone -/
def aFr (t : Nat) (I I' : zI) : Prop := ∀ x, x ≠ 6 → x ≠ 12 → x ≠ 13 → x ≠ 14 → x ≠ t → x ≠ t + 1 → I' x = I x
theorem X2_59 (hK : ∀ a, a < 89 → K a = zKt a) (hP : aPc K I R t b n s g r D o q hs p) (hA : aOk b n s g r D o q hs p) {v so : Nat} {x1 x2 x3 : Int32} (hd : aHd x1 (aB (I 1) b (p + 1)) D v so x2 x3) :
    ((0 < D ∧ r (o (D - 1)) = 8) → f_X2_readHead_59 F K R 6 I x1 x2 x3 = some (0, zup I 6 3 2)) ∧
    (¬ (0 < D ∧ r (o (D - 1)) = 8) → (n = 32 ∨ D = 8) → f_X2_readHead_59 F K R 6 I x1 x2 x3 = some (0, zup I 6 3 3)) ∧
    (¬ (0 < D ∧ r (o (D - 1)) = 8) → ¬ (n = 32 ∨ D = 8) → aCl D q hs so v → f_X2_readHead_59 F K R 6 I x1 x2 x3 = some (0, zup I 6 3 4)) ∧
    (¬ (0 < D ∧ r (o (D - 1)) = 8) → ¬ (n = 32 ∨ D = 8) → ¬ aCl D q hs so v → ∃ I1, f_X2_readHead_59 F K R 6 I x1 x2 x3 = some (1, I1) ∧ aPc K I1 R t b (n + 1) (aUp s n so) (aUp g n v) (aRn r n D o) D o (if so = 3 then aUp q (D - 1) 1 else q) (if so = 0 then hs else aUp hs v so) (p + if so = 3 then 2 else 1) ∧ aFr t I I1) := by
  have hP0 := hP
  obtain ⟨hT, ht, ⟨r0, r4, r6, r7, r8⟩, ⟨i1, i2, i5⟩, c12, c13, c14⟩ := hP
  have hA0 := hA
  obtain ⟨a1, a2, a3, a4, a5, a6, a7, a8⟩ := hA
  have k12 : K 12 = (1, 8) := hK 12 (by decide)
  have k15 : (K t).1 = 15 := by rw [hT.1]
  have t8 : I t 3 = nI n := hT.2.2.2.2.2.2.2.1
  have hv12 : v ≤ 12 := by rcases hd with ⟨-, -, -, h, -⟩ | ⟨-, -, -, h, -⟩ <;> omega
  obtain ⟨x4, hx4⟩ : ∃ x4 : Int32, x4 = if 0 < D then nI (o (D - 1)) else -1 := ⟨_, rfl⟩
  have e59 : f_X2_readHead_59 F K R 6 I x1 x2 x3 = f_X2_readHead_93 F K R 6 I x1 x2 x3 x4 := by
    unfold f_X2_readHead_59 f_X2_readHead_92
    by_cases hD : 0 < D
    · rw [i5, if_neg (show ¬ (nI D ≤ (0 : Int32)) from nI_nle hD (by omega)), r6, zbd_s, zdr_s (t := 1) (by rw [k12]), zbd_s, show zln K 12 = nI 8 from by unfold zln; rw [k12]; rfl, if_neg (fun e => absurd (nI_le (show D ≤ 8 from a2) (by omega)) (Int32.not_le.mpr e)), zbd_s, zdr_s (t := 1) (by rw [k12]), zbd_s, aPrd hD, zrd_s (by rw [k12]; show D - 1 < 8; omega) (by rw [k12]; decide), zbd_s, c12 _ (by omega), hx4, if_pos hD]
    · rw [i5, if_pos (show nI D ≤ (0 : Int32) from nI_le (b := 0) (by omega) (by decide)), hx4, if_neg hD]
  have e93 : f_X2_readHead_93 F K R 6 I x1 x2 x3 x4 = if 0 < D ∧ r (o (D - 1)) = 8 then some (0, zup I 6 3 2) else f_X2_readHead_120 F K R 6 I x1 x2 x3 x4 := by
    unfold f_X2_readHead_93
    rw [hx4]
    by_cases hD : 0 < D
    · have ho := a6 (D - 1) (by omega)
      have h8 := (a5 _ ho).2.1
      have h8' : r (o (D - 1)) ≤ 8 := h8
      rw [if_pos hD, if_neg (nI_pos (by omega)), r4, zbd_s, zdr_s k15, zbd_s, X5_argumentsOf_k hT a5 a1 ho, zbd_s]
      by_cases h : r (o (D - 1)) = 8
      · rw [if_neg (show ¬ (nI (tr (aTm n s g r) (o (D - 1))) < 8) from by show ¬ (nI (r (o (D - 1))) < 8); rw [h]; decide), if_pos ⟨hD, h⟩]
        rfl
      · rw [if_pos (show nI (tr (aTm n s g r) (o (D - 1))) < 8 from nI_lt (b := 8) (by show r (o (D - 1)) < 8; omega) (by decide)), if_neg (fun e => h e.2)]
    · rw [if_neg hD, if_pos (by decide), if_neg (fun e => hD e.1)]
  have e120 : f_X2_readHead_120 F K R 6 I x1 x2 x3 x4 = if n = 32 ∨ D = 8 then some (0, zup I 6 3 3) else f_X2_readHead_162 F K R 6 I x2 x3 x4 (nI v) := by
    unfold f_X2_readHead_120
    rw [r4, zbd_s, zdr_s k15, zbd_s, t8, i5]
    by_cases hn : n = 32
    · rw [if_pos (show (32 : Int32) ≤ nI n by rw [hn]; decide), if_pos (Or.inl hn)]
      rfl
    · rw [if_neg (show ¬ ((32 : Int32) ≤ nI n) from nI_ge (b := 32) (by omega) (by decide))]
      by_cases hD : D = 8
      · rw [if_neg (show ¬ (nI D ≤ 7) by rw [hD]; decide), if_pos (Or.inr hD)]
        rfl
      · rw [if_pos (show nI D ≤ (7 : Int32) from nI_le (b := 7) (by omega) (by decide)), if_neg (show ¬ (n = 32 ∨ D = 8) from fun e => e.elim hn hD)]
        rcases hd with ⟨h2, h3, h1, h4, h5⟩ | ⟨h2, h3, h1, h4, h5⟩
        · rw [h2, if_neg (by decide), h1, show nI (97 + v) - (97 : Int32) = nI v from by rw [nl97, nI_sub (by omega), Nat.add_sub_cancel_left]]
        · rw [h2, if_pos rfl, h1, show nI (48 + v) - (48 : Int32) = nI v from by rw [show (48 : Int32) = nI 48 from rfl, nI_sub (by omega), Nat.add_sub_cancel_left]]
  have e162 : f_X2_readHead_162 F K R 6 I x2 x3 x4 (nI v) = f_X2_readHead_186 F K R 6 I x3 x4 (nI v) (nI so) := by
    unfold f_X2_readHead_162
    rcases hd with ⟨h2, h3, h1, h4, h5⟩ | ⟨h2, h3, h1, h4, h5⟩
    · rw [h2, if_neg (by decide), h5]
      rfl
    · rw [h2, if_pos rfl, i2, nI_1, X2_byteAt hK r0 i1 a3 (by omega), zbd_s, X2_holeSort i5 a2, zbd_s, h5]
  rw [e59, e93]
  refine ⟨fun h => if_pos h, fun h h2 => by rw [if_neg h, e120, if_pos h2], fun h h2 h3 => ?_, fun h h2 h3 => ?_⟩
  · rw [if_neg h, e120, if_neg h2, e162]
    rcases hd with ⟨d2, d3, d1, d4, d5⟩ | ⟨d2, d3, d1, d4, d5⟩
    · exact absurd d5 h3.1
    · obtain ⟨q1, q2⟩ := aHs_is (aB (I 1) b (p + 1)) D
      rw [← d5] at q1 q2
      unfold f_X2_readHead_186
      rw [d3, if_neg (by decide), (X2_takeHole (F := F) hK hP0 hA0 d4 q1 q2).1 h3, zbd2_s, if_pos rfl]
      rfl
  · rw [if_neg h, e120, if_neg h2, e162]
    have h8 : 0 < D → r (o (D - 1)) < 8 := fun hD => by
      have h8 : r (o (D - 1)) ≤ 8 := (a5 _ (a6 (D - 1) (by omega))).2.1
      have : r (o (D - 1)) ≠ 8 := fun e => h ⟨hD, e⟩
      omega
    rcases hd with ⟨d2, d3, d1, d4, d5⟩ | ⟨d2, d3, d1, d4, d5⟩
    · obtain ⟨I1, f1, f2, f3⟩ := X2_209 (F := F) hK hP0 hA0 d4 (show so ≤ 3 by omega) (by omega) h8 hx4
      refine ⟨I1, ?_, ?_, fun x x1 _ _ _ x5 x6 => f3 x x1 x5 x6⟩
      · unfold f_X2_readHead_186
        rw [d3, if_pos rfl, f1]
      · rw [if_neg (show ¬ so = 3 by omega), if_pos d5] 
        rw [if_neg (show ¬ so = 3 by omega)] at f2
        rw [if_neg (show ¬ so = 3 by omega)]
        exact f2
    · obtain ⟨q1, q2⟩ := aHs_is (aB (I 1) b (p + 1)) D
      rw [← d5] at q1 q2
      have hP2 : aPc K (zup (if so = 3 then zup I 13 (D - 1) 1 else I) 14 v (nI so)) R t b n s g r D o (if so = 3 then aUp q (D - 1) 1 else q) (aUp hs v so) p := by
        have fb : ∀ x, x ≠ 13 → x ≠ 14 → zup (if so = 3 then zup I 13 (D - 1) 1 else I) 14 v (nI so) x = I x := fun x y1 y2 => by
          rw [zup_ne _ _ _ y2]
          by_cases e3 : so = 3
          · rw [if_pos e3, zup_ne _ _ _ y1]
          · rw [if_neg e3]
        refine ⟨zTk_row hT (fb t (by omega) (by omega)) (fb (t + 1) (by omega) (by omega)), ht, ⟨r0, r4, r6, r7, r8⟩, ⟨by rw [fb 6 (by decide) (by decide)]; exact i1, by rw [fb 6 (by decide) (by decide)]; exact i2, by rw [fb 6 (by decide) (by decide)]; exact i5⟩, fun k hk => by rw [fb 12 (by decide) (by decide)]; exact c12 k hk, fun k hk => ?_, fun h hh => ?_⟩
        · rw [zup_ne _ _ _ (by decide)]
          by_cases e3 : so = 3
          · rw [if_pos e3, if_pos e3]
            unfold aUp
            by_cases hk2 : k = D - 1
            · rw [hk2, zup_self, if_pos rfl]; rfl
            · rw [zup_self_ne _ _ _ hk2, if_neg hk2]; exact c13 k hk
          · rw [if_neg e3, if_neg e3]; exact c13 k hk
        · unfold aUp
          by_cases hv : h = v
          · rw [hv, zup_self, if_pos rfl, if_neg (show ¬ so = 0 by omega)]
          · rw [zup_self_ne _ _ _ hv, if_neg hv]
            have e14 : (if so = 3 then zup I 13 (D - 1) 1 else I) 14 = I 14 := by
              by_cases e3 : so = 3
              · rw [if_pos e3, zup_ne _ _ _ (by decide)]
              · rw [if_neg e3]
            rw [e14]
            exact c14 h hh
      have hA2 : aOk b n s g r D o (if so = 3 then aUp q (D - 1) 1 else q) (aUp hs v so) p := by
        refine ⟨a1, a2, a3, a4, a5, a6, fun k hk => ?_, fun h hh => ?_⟩
        · by_cases e3 : so = 3
          · rw [if_pos e3]; unfold aUp
            by_cases hk2 : k = D - 1
            · rw [if_pos hk2]; exact Nat.le_refl _
            · rw [if_neg hk2]; exact a7 k hk
          · rw [if_neg e3]; exact a7 k hk
        · unfold aUp
          by_cases hv : h = v
          · rw [if_pos hv]; omega
          · rw [if_neg hv]; exact a8 h hh
      obtain ⟨I1, f1, f2, f3⟩ := X2_209 (F := F) hK hP2 hA2 (show v ≤ 12 by omega) (show so ≤ 3 by omega) (by omega) h8 hx4
      refine ⟨I1, ?_, ?_, fun x x1 _ x3 x4 x5 x6 => ?_⟩
      · unfold f_X2_readHead_186
        rw [d3, if_neg (by decide), (X2_takeHole (F := F) hK hP0 hA0 d4 q1 q2).2 h3, zbd2_s, if_neg (by decide), f1]
      · rw [if_neg (show ¬ so = 0 by omega)]
        exact f2
      · rw [f3 x x1 x5 x6, zup_ne _ _ _ x4]
        by_cases e3 : so = 3
        · rw [if_pos e3, zup_ne _ _ _ x3]
        · rw [if_neg e3]
/-- the head of a node -/
theorem X2_head (hK : ∀ a, a < 89 → K a = zKt a) (hP : aPc K I R t b n s g r D o q hs p) (hA : aOk b n s g r D o q hs p) : (∃ v so x2 x3, aHd (aB (I 1) b p) (aB (I 1) b (p + 1)) D v so x2 x3 ∧ f_X2_readHead F K I R 6 = f_X2_readHead_59 F K R 6 I (aB (I 1) b p) x2 x3) ∨ ((¬ ∃ v, v ≤ 12 ∧ aB (I 1) b p = nI (97 + v)) ∧ (¬ ∃ v, v ≤ 9 ∧ aB (I 1) b p = nI (48 + v)) ∧ f_X2_readHead F K I R 6 = some (0, zup I 6 3 1)) := by
  obtain ⟨-, -, ⟨r0, -⟩, ⟨i1, i2, i5⟩, -⟩ := hP
  obtain ⟨-, -, a3, a4, -⟩ := hA
  have eB := X2_byteAt (F := F) hK r0 i1 a3 (show p < 2 ^ 31 by omega)
  generalize hc : aB (I 1) b p = c at eB ⊢
  have e44 : f_X2_readHead_44 F K R 6 I c 0 0 = some (0, zup I 6 3 1) := rfl
  have eH : f_X2_readHead F K I R 6 = if c < 97 then f_X2_readHead_25 F K R 6 I c else if (110 : Int32) ≤ c then f_X2_readHead_25 F K R 6 I c else f_X2_readHead_26 F K R 6 I c 1 := by
    unfold f_X2_readHead
    rw [i2, eB, zbd_s]
  have e25 : f_X2_readHead_25 F K R 6 I c = if c < 48 then some (0, zup I 6 3 1) else if (57 : Int32) < c then some (0, zup I 6 3 1) else f_X2_readHead_59 F K R 6 I c 0 1 := by
    unfold f_X2_readHead_25 f_X2_readHead_26 f_X2_readHead_43
    rw [e44]
    rfl
  by_cases hs : c < 97 ∨ (110 : Int32) ≤ c
  · have eH2 : f_X2_readHead F K I R 6 = f_X2_readHead_25 F K R 6 I c := by
      rw [eH]
      by_cases h1 : c < 97
      · rw [if_pos h1]
      · rw [if_neg h1, if_pos (hs.resolve_left h1)]
    have nos : ¬ ∃ v, v ≤ 12 ∧ c = nI (97 + v) := fun ⟨v, v1, v2⟩ => by
      rcases hs with h | h
      · rw [v2] at h
        exact absurd (show (97 : Int32) ≤ nI (97 + v) from nI_le (a := 97) (by omega) (by omega)) (Int32.not_le.mpr h)
      · rw [v2] at h
        exact absurd h (show ¬ ((110 : Int32) ≤ nI (97 + v)) from nI_ge (b := 110) (by omega) (by decide))
    rw [eH2, e25]
    by_cases h48 : c < 48
    · refine Or.inr ⟨nos, fun ⟨v, v1, v2⟩ => ?_, by rw [if_pos h48]⟩
      rw [v2] at h48
      exact absurd (show (48 : Int32) ≤ nI (48 + v) from nI_le (a := 48) (by omega) (by omega)) (Int32.not_le.mpr h48)
    · rw [if_neg h48]
      by_cases h57 : (57 : Int32) < c
      · refine Or.inr ⟨nos, fun ⟨v, v1, v2⟩ => ?_, by rw [if_pos h57]⟩
        rw [v2] at h57
        exact absurd (show nI (48 + v) ≤ (57 : Int32) from nI_le (b := 57) (by omega) (by decide)) (Int32.not_le.mpr h57)
      · rw [if_neg h57]
        obtain ⟨j, j1, j2⟩ := zrange (x := c) (M := 57) (n := 57) rfl ⟨Int32.le_trans (by decide) (Int32.not_lt.mp h48), Int32.not_lt.mp h57⟩
        have j3 : 48 ≤ j := by
          rcases Nat.lt_or_ge j 48 with h | h
          · exfalso
            rw [j2] at h48
            exact h48 (nI_lt (b := 48) h (by decide))
          · exact h
        exact Or.inl ⟨j - 48, aHs (aB (I 1) b (p + 1)) D, 0, 1, Or.inr ⟨rfl, rfl, by rw [j2, show 48 + (j - 48) = j by omega], by omega, rfl⟩, rfl⟩
  · have h1 : ¬ c < 97 := fun e => hs (Or.inl e)
    have h2 : ¬ (110 : Int32) ≤ c := fun e => hs (Or.inr e)
    obtain ⟨j, j1, j2⟩ := zrange (x := c) (M := 110) (n := 110) rfl ⟨Int32.le_trans (by decide) (Int32.not_lt.mp h1), Int32.le_of_lt (Int32.not_le.mp h2)⟩
    have j3 : 97 ≤ j := by
      rcases Nat.lt_or_ge j 97 with h | h
      · exfalso
        rw [j2] at h1
        exact h1 (nI_lt (b := 97) h (by decide))
      · exact h
    have j4 : j < 110 := by
      rcases Nat.lt_or_ge j 110 with h | h
      · exact h
      · exfalso
        rw [j2] at h2
        exact h2 (nI_le (a := 110) h (by omega))
    refine Or.inl ⟨j - 97, 0, 1, 0, Or.inl ⟨rfl, rfl, by rw [j2, show 97 + (j - 97) = j by omega], by omega, rfl⟩, ?_⟩
    have h57 : (57 : Int32) < c := Int32.lt_of_lt_of_le (by decide) (Int32.not_lt.mp h1)
    have h48 : ¬ c < 48 := fun e => h1 (Int32.lt_trans e (by decide))
    rw [eH, if_neg h1, if_neg h2]
    unfold f_X2_readHead_26 f_X2_readHead_43 f_X2_readHead_44
    rw [if_neg h48, if_pos h57, if_neg (by decide)]
end ZPB
