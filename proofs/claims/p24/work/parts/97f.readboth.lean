/-! put(): the whole text is read on both sides */ -/
section ZPF
variable {F : Nat} {K : zK} {R : zR} {RM : zR} {t b n : Nat} {s g r o q hs : Nat → Nat}
theorem aInv_le {D D' : Nat} (hI : aInv n s g r D o q) (h : D' ≤ D) : aInv n s g r D' o q := by
  obtain ⟨L, l1, l2, l3, l4, l5, l6, l7, l8⟩ := hI
  exact ⟨L, l1, l2, l3, l4, fun k hk => l5 k (by omega), fun k l h1 h2 => l6 k l h1 (by omega), fun k hk => l7 k (by omega), l8⟩
theorem aFr_tr {I I' I'' : zI} (h : aFr t I I') (h' : aFr t I' I'') : aFr t I I'' := fun x a b c d e f => (h' x a b c d e f).trans (h x a b c d e f)
theorem closes_both (hK : ∀ a, a < 89 → K a = zKt a) (hRM : zRM RM) : ∀ (D p f f' : Nat) (I J : zI), aPc K I R t b n s g r D o q hs p → aPm J b n s g r D o q hs p → aOk b n s g r D o q hs p → J 89 14 = 0 → (∀ i, i < b → I 1 i = J 91 i) → D < f → b - p < f' → ∃ (D' p' f'' : Nat) (I1 J1 : zI), D' ≤ D ∧ p ≤ p' ∧ p' ≤ b ∧ f'' + p' = f' + p ∧ f_X2_closeNodes_0 F K R 6 f I = some I1 ∧ f_X7_reads_54 F zKm RM 89 f' J 1 = f_X7_reads_54 F zKm RM 89 f'' J1 1 ∧ aPc K I1 R t b n s g r D' o q hs p' ∧ aPm J1 b n s g r D' o q hs p' ∧ J1 89 14 = 0 ∧ J1 89 4 = J 89 4 ∧ aFr t I I1 ∧ aFm J J1 ∧ (D' = 0 ∨ aB (I 1) b p' ≠ 41) := by
  intro D
  induction D with
  | zero =>
    intro p f f' I J hP hM hA h14 htx hf hf'
    obtain ⟨f, rfl⟩ : ∃ y, f = y + 1 := ⟨f - 1, by omega⟩
    refine ⟨0, p, f', I, J, Nat.le_refl _, Nat.le_refl _, hA.2.2.2.1, rfl, ?_, rfl, hP, hM, h14, rfl, fun _ _ _ _ _ _ _ => rfl, ⟨fun _ _ _ _ _ _ => rfl, fun _ _ => rfl, fun _ _ => rfl⟩, Or.inl rfl⟩
    show g_X2_closeNodes_0 F K R 6 _ I = _
    unfold g_X2_closeNodes_0
    rw [hP.2.2.2.1.2.2, if_pos (by decide)]
  | succ D ih =>
    intro p f f' I J hP hM hA h14 htx hf hf'
    obtain ⟨f, rfl⟩ : ∃ y, f = y + 1 := ⟨f - 1, by omega⟩
    obtain ⟨f', rfl⟩ : ∃ y, f' = y + 1 := ⟨f' - 1, by omega⟩
    have hP0 := hP
    have hM0 := hM
    obtain ⟨hT, ht, hR6, ⟨i1, i2, i5⟩, c12, c13, c14⟩ := hP
    obtain ⟨⟨j3, j12, j13⟩, hTm, m98, m990, m99, m97⟩ := hM
    have hA0 := hA
    obtain ⟨a1, a2, a3, a4, a5, a6, a7, a8⟩ := hA
    have eC : f_X2_closeNodes_0 F K R 6 (f + 1) I = if aB (I 1) b p = 41 then f_X2_closeNodes_0 F K R 6 f (zup (zup I 6 5 (nI D)) 6 2 (nI (p + 1))) else some I := by
      show g_X2_closeNodes_0 F K R 6 (f_X2_closeNodes_0 F K R 6 f) I = _
      unfold g_X2_closeNodes_0
      rw [i5, if_neg (show ¬ (nI (D + 1) ≤ (0 : Int32)) from nI_nle (by omega) (by omega)), i2, X2_byteAt hK hR6.1 i1 a3 (by omega), zbd_s, aPrd (by omega), Nat.add_sub_cancel, zbd_s, zup_self_ne _ _ _ (by decide), i2, nI_1, zbd_s]
    by_cases h41 : aB (I 1) b p = 41
    · have h41' := (aB_iff htx p (by decide) (by decide)).mp h41
      have hpb : p < b := by
        rcases Nat.lt_or_ge p b with h | h
        · exact h
        · unfold aB at h41; rw [if_neg (by omega)] at h41; cases h41
      have eJ : f_X7_reads_54 F zKm RM 89 (f' + 1) J 1 = f_X7_reads_54 F zKm RM 89 f' (zup (zup J 89 13 (nI (p + 1))) 89 12 (nI D)) 1 := by
        show g_X7_reads_54 F zKm RM 89 (f_X7_reads_54 F zKm RM 89 f') J 1 = _
        unfold g_X7_reads_54
        rw [if_neg (show ¬ ((1 : Int32) = 0) by decide), if_pos h14, j12, if_neg (show ¬ (nI (D + 1) = 0) from fun e => by have := (ni0 (by omega)).mp e; omega), j13, X7_byteAt hRM j3 a3 (by omega), zbd_s, h41', if_neg (by decide), zbd_s, if_pos rfl, nI_1, zbd_s, zup_self_ne _ _ _ (by decide), j12, aPrd (by omega), Nat.add_sub_cancel, zbd_s]
      have u90 : ∀ y, y ≠ 12 → y ≠ 13 → zup (zup J 89 13 (nI (p + 1))) 89 12 (nI D) 89 y = J 89 y := fun y y1 y2 => by rw [zup_self_ne _ _ _ y1, zup_self_ne _ _ _ y2]
      have uJ : ∀ x, x ≠ 89 → zup (zup J 89 13 (nI (p + 1))) 89 12 (nI D) x = J x := fun x hx => by rw [zup_ne _ _ _ hx, zup_ne _ _ _ hx]
      have uI : ∀ x, x ≠ 6 → zup (zup I 6 5 (nI D)) 6 2 (nI (p + 1)) x = I x := fun x hx => by rw [zup_ne _ _ _ hx, zup_ne _ _ _ hx]
      have hP1 : aPc K (zup (zup I 6 5 (nI D)) 6 2 (nI (p + 1))) R t b n s g r D o q hs (p + 1) := ⟨zTk_row hT (uI t (by omega)) (uI (t + 1) (by omega)), ht, hR6, ⟨by rw [zup_self_ne _ _ _ (by decide), zup_self_ne _ _ _ (by decide)]; exact i1, zup_self _ _ _ _, by rw [zup_self_ne _ _ _ (by decide), zup_self]⟩, fun k hk => by rw [uI 12 (by decide)]; exact c12 k (by omega), fun k hk => by rw [uI 13 (by decide)]; exact c13 k (by omega), by rw [uI 14 (by decide)]; exact c14⟩
      have hM1 : aPm (zup (zup J 89 13 (nI (p + 1))) 89 12 (nI D)) b n s g r D o q hs (p + 1) := ⟨⟨by rw [u90 3 (by decide) (by decide)]; exact j3, zup_self _ _ _ _, by rw [zup_self_ne _ _ _ (by decide), zup_self]⟩, by rw [uJ 90 (by decide)]; exact hTm, fun k hk => by rw [uJ 97 (by decide)]; exact m98 k (by omega), by rw [uJ 98 (by decide)]; exact m990, fun k hk => by rw [uJ 98 (by decide)]; exact m99 k (by omega), by rw [uJ 96 (by decide)]; exact m97⟩
      obtain ⟨D', p', f'', I1, J1, b1, b2, b3, b4, b5, b6, b7, b8, b9, b10, b11, b12, b13⟩ := ih (p + 1) f f' _ _ hP1 hM1 ⟨a1, by omega, a3, hpb, a5, fun k hk => a6 k (by omega), fun k hk => a7 k (by omega), a8⟩ (by rw [u90 14 (by decide) (by decide)]; exact h14) (fun i hi => by rw [uI 1 (by decide), uJ 91 (by decide)]; exact htx i hi) (by omega) (by omega)
      refine ⟨D', p', f'', I1, J1, by omega, by omega, b3, by omega, by rw [eC, if_pos h41, b5], by rw [eJ, b6], b7, b8, b9, by rw [b10, u90 4 (by decide) (by decide)], aFr_tr (fun x x1 _ _ _ _ _ => uI x x1) b11, aFm_tr ⟨fun x x1 _ _ _ _ => uJ x x1, fun y _ => by rw [uJ 90 (by decide)], fun y hy => u90 y (by omega) (by omega)⟩ b12, ?_⟩
      rw [uI 1 (by decide)] at b13
      exact b13
    · exact ⟨D + 1, p, f' + 1, I, J, Nat.le_refl _, Nat.le_refl _, a4, rfl, by rw [eC, if_neg h41], rfl, hP0, hM0, h14, rfl, fun _ _ _ _ _ _ _ => rfl, ⟨fun _ _ _ _ _ _ => rfl, fun _ _ => rfl, fun _ _ => rfl⟩, Or.inr h41⟩
/-- what reading comes to -/
def aOut (K : zK) (R : zR) (t n0 : Nat) (I J : zI) (x : Option (Option Nat × Nat × zK × zI × zR)) (y : Option (Int32 × zI)) : Prop := ∃ (a : Option Nat) (v : Int32) (I' J' : zI), x = some (a, n0, K, I', R) ∧ y = some (v, J') ∧ aFs t I I' ∧ aFm J J' ∧ ((a = none ∧ v = 0 ∧ I' 6 3 = J' 89 4 ∧ I' 6 2 = J' 89 13) ∨ (a = some t ∧ v = 1 ∧ J' 89 4 = J 89 4 ∧ ∃ T, tWF T ∧ zTc K I' R t T ∧ zTm (J' 90) 5460 T))
theorem aOut_fr {I I1 J J1 : zI} {n0 : Nat} {x : Option (Option Nat × Nat × zK × zI × zR)} {y : Option (Int32 × zI)} (h1 : aFr t I I1) (h2 : aFm J J1) (h4 : J1 89 4 = J 89 4) (h : aOut K R t n0 I1 J1 x y) : aOut K R t n0 I J x y := by
  obtain ⟨a, v, I', J', e1, e2, e3, e4, e5⟩ := h
  refine ⟨a, v, I', J', e1, e2, fun x x1 x2 x3 x4 x5 x6 x7 x8 => (e3 x x1 x2 x3 x4 x5 x6 x7 x8).trans (h1 x x1 x2 x3 x4 x5 x6), aFm_tr h2 e4, ?_⟩
  rcases e5 with e5 | ⟨c1, c2, c3, c4⟩
  · exact Or.inl e5
  · exact Or.inr ⟨c1, c2, c3.trans h4, c4⟩
/-- the new node keeps what is known of the nodes -/
theorem aHol_next {D v so : Nat} {c c1 x2 x3 : Int32} (hH : aHol n s g r D o hs) (hlt : ∀ k, k < D → o k < n) (hd : aHd c c1 D v so x2 x3) (hcl : ¬ aCl D q hs so v) : (∀ i, i < n + 1 → aUp s n so i ≠ 0 → (if so = 0 then hs else aUp hs v so) (aUp g n v i) = aUp s n so i) ∧ (∀ i, i < n + 1 → aUp s n so i = 1 ∨ aUp s n so i = 3 → aRn r n D o i = 0) ∧ (∀ k, k < D → aUp s n so (o k) = 0 ∨ aUp s n so (o k) = 2) ∧ ∀ i, i < n + 1 → aUp s n so i = 2 → 1 ≤ aRn r n D o i ∨ (i = n ∧ so = 2) := by
  obtain ⟨h1, h2, h3, h4⟩ := hH
  refine ⟨fun i hi h0 => ?_, fun i hi h0 => ?_, fun k hk => ?_, fun i hi h0 => ?_⟩
  · unfold aUp at h0 ⊢
    by_cases e : i = n
    · rw [if_pos e] at h0 ⊢
      rw [if_pos e, if_neg h0]
      show (if v = v then so else hs v) = so
      rw [if_pos rfl]
    · rw [if_neg e] at h0 ⊢
      rw [if_neg e]
      have hh := h1 i (by omega) h0
      by_cases hs0 : so = 0
      · rw [if_pos hs0]; exact hh
      · rw [if_neg hs0]
        show (if g i = v then so else hs (g i)) = s i
        by_cases hg : g i = v
        · rw [if_pos hg]
          rw [hg] at hh
          exact (Classical.byContradiction fun z => hcl ⟨hs0, Or.inl ⟨by omega, fun y => z (by omega)⟩⟩)
        · rw [if_neg hg]; exact hh
  · unfold aUp at h0
    unfold aRn
    by_cases e : i = n
    · rw [if_pos e]
    · rw [if_neg e] at h0 ⊢
      have hr := h2 i (by omega) h0
      by_cases ho : 0 < D ∧ i = o (D - 1)
      · have := h3 (D - 1) (by omega)
        rw [← ho.2] at this
        omega
      · rw [if_neg ho]; exact hr
  · have := hlt k hk
    unfold aUp
    rw [if_neg (show ¬ o k = n by omega)]
    exact h3 k hk
  · unfold aUp at h0
    unfold aRn
    by_cases e : i = n
    · rw [if_pos e] at h0
      exact Or.inr ⟨e, h0⟩
    · rw [if_neg e] at h0
      rw [if_neg e]
      rcases h4 i (by omega) h0 with z | z
      · left
        by_cases ho : 0 < D ∧ i = o (D - 1)
        · rw [if_pos ho]; omega
        · rw [if_neg ho]; exact z
      · left
        rw [if_pos z]; omega
end ZPF
