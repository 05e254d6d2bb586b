/-! Taking a hole, on both sides -/
/-- what joining touches: the class's side -/
def zJfC (p : Nat) (I I' : zI) (R R' : zR) : Prop := (∀ b, b ≠ 21 → b ≠ 34 → b ≠ 36 → b ≠ 37 → b ≠ 39 → b ≠ 40 → b ≠ p → b ≠ p + 1 → I' b = I b) ∧ (∀ k, k ≠ 5 → I' 21 k = I 21 k) ∧ ∀ b, b ≠ 35 → b ≠ 38 → R' b = R b
/-- the reference's side -/
def zJfJ (to : Nat) (J J' : zI) : Prop := (∀ b, b ≠ 89 → b ≠ 90 → b < 100 ∨ 111 < b → J' b = J b) ∧ (∀ k, k ≠ 16 → k ≠ 29 → J' 89 k = J 89 k) ∧ ∀ q, q < to ∨ to + 97 ≤ q → J' 90 q = J 90 q
theorem zJfC_refl (p : Nat) (I : zI) (R : zR) : zJfC p I I R R := ⟨fun _ _ _ _ _ _ _ _ _ => rfl, fun _ _ => rfl, fun _ _ _ => rfl⟩
theorem zJfC_trans {p : Nat} {I I' I'' : zI} {R R' R'' : zR} (h : zJfC p I I' R R') (h2 : zJfC p I' I'' R' R'') : zJfC p I I'' R R'' := ⟨fun b a1 a2 a3 a4 a5 a6 a7 a8 => by rw [h2.1 b a1 a2 a3 a4 a5 a6 a7 a8, h.1 b a1 a2 a3 a4 a5 a6 a7 a8], fun k hk => by rw [h2.2.1 k hk, h.2.1 k hk], fun b a1 a2 => by rw [h2.2.2 b a1 a2, h.2.2 b a1 a2]⟩
theorem zJfJ_refl (to : Nat) (J : zI) : zJfJ to J J := ⟨fun _ _ _ _ => rfl, fun _ _ _ => rfl, fun _ _ => rfl⟩
theorem zJfJ_trans {to : Nat} {J J' J'' : zI} (h : zJfJ to J J') (h2 : zJfJ to J' J'') : zJfJ to J J'' := ⟨fun b a1 a2 a3 => by rw [h2.1 b a1 a2 a3, h.1 b a1 a2 a3], fun k a1 a2 => by rw [h2.2.1 k a1 a2, h.2.1 k a1 a2], fun q a1 => by rw [h2.2.2 q a1, h.2.2 q a1]⟩
section ZHP
variable {F : Nat} {K : zK} {I I' : zI} {R R' : zR} {J J' : zI} {RM : zR} {p to t u a b s i c j e o h : Nat} {w : Nat × Nat} {T U : Tm}
theorem zTr_keep (ht : zTr K I R J p w to t o T) (hC : zJfC p I I' R R') (hJ : zJfJ to J J') : zTr K I' R' J' p w to t o T := by
  obtain ⟨h1, h2, h3, h4, h5, h6, h7⟩ := ht
  exact ⟨h1, h2, h3, h4, h5, zTc_keep h6 (fun b b1 b2 => ⟨rfl, hC.1 b (by omega) (by omega) (by omega) (by omega) (by omega) (by omega) (by omega) (by omega), hC.2.2 b (by omega) (by omega)⟩), zTm_keep h7 (fun q hq => hJ.2.2 _ (by omega)) h5.1.2.1⟩
theorem zEnt_keep (hE : zEnt K I R J p w to h) (hC : zJfC p I I' R R') (hJ : zJfJ to J J') (h1 : ∀ b, b = 34 ∨ b = 36 ∨ b = 37 ∨ b = 39 ∨ b = 40 → I' b h = I b h) (h2 : R' 35 h = R 35 h ∧ R' 38 h = R 38 h) (h3 : ∀ b, 100 ≤ b → b ≤ 106 → J' b h = J b h) : zEnt K I' R' J' p w to h := by
  obtain ⟨s', i', c', j', e', t1, o1, t2, o2, T1, T2, hs', ⟨f1, g1⟩, ⟨f2, g2⟩, ⟨f3, g3⟩, ⟨f4, g4⟩, ⟨f5, g5⟩, ⟨f6, g6⟩, ⟨f7, g7⟩, m, n, hi', hj', h2s'⟩ := hE
  exact ⟨s', i', c', j', e', t1, o1, t2, o2, T1, T2, hs', ⟨by rw [h1 34 (by omega)]; exact f1, by rw [h3 100 (by omega) (by omega)]; exact g1⟩, ⟨by rw [h2.1]; exact f2, by rw [h3 101 (by omega) (by omega)]; exact g2⟩, ⟨by rw [h1 36 (by omega)]; exact f3, by rw [h3 102 (by omega) (by omega)]; exact g3⟩, ⟨by rw [h1 37 (by omega)]; exact f4, by rw [h3 103 (by omega) (by omega)]; exact g4⟩, ⟨by rw [h2.2]; exact f5, by rw [h3 104 (by omega) (by omega)]; exact g5⟩, ⟨by rw [h1 39 (by omega)]; exact f6, by rw [h3 105 (by omega) (by omega)]; exact g6⟩, ⟨by rw [h1 40 (by omega)]; exact f7, by rw [h3 106 (by omega) (by omega)]; exact g7⟩, zTr_keep m hC hJ, zTr_keep n hC hJ, hi', hj', h2s'⟩
/-- a new entry of the class's table, and of the reference's -/
def zNewC (I : zI) (H s i c j e : Nat) : zI := zup (zup (zup (zup (zup (zup I 34 H (nI s)) 36 H (nI i)) 37 H (nI c)) 39 H (nI j)) 40 H (nI e)) 21 5 (nI (H + 1))
def zNewR (R : zR) (H t u : Nat) : zR := zup (zup R 35 H (some t)) 38 H (some u)
def zNewJ (J : zI) (H s a i c b j e : Nat) : zI := zup (zup (zup (zup (zup (zup (zup (zup J 100 H (nI s)) 101 H (nI a)) 102 H (nI i)) 103 H (nI c)) 104 H (nI b)) 105 H (nI j)) 106 H (nI e)) 89 16 (nI (H + 1))
theorem new_fr (hp : 92 ≤ p) (H : Nat) : zJfC p I (zNewC I H s i c j e) R (zNewR R H t u) ∧ zJfJ to J (zNewJ J H s a i c b j e) := by
  unfold zNewC zNewR zNewJ
  refine ⟨⟨fun b a1 a2 a3 a4 a5 a6 a7 a8 => ?_, fun k hk => ?_, fun b a1 a2 => ?_⟩, fun b a1 a2 a3 => ?_, fun k a1 a2 => ?_, fun q a1 => ?_⟩
  · rw [zup_ne _ _ _ a1, zup_ne _ _ _ a6, zup_ne _ _ _ a5, zup_ne _ _ _ a4, zup_ne _ _ _ a3, zup_ne _ _ _ a2]
  · rw [zup_self_ne _ _ _ hk, zup_nb _ _ _ (by decide), zup_nb _ _ _ (by decide), zup_nb _ _ _ (by decide), zup_nb _ _ _ (by decide), zup_nb _ _ _ (by decide)]
  · rw [zup_ne _ _ _ a2, zup_ne _ _ _ a1]
  · rw [zup_ne _ _ _ a1, zup_ne _ _ _ (by omega), zup_ne _ _ _ (by omega), zup_ne _ _ _ (by omega), zup_ne _ _ _ (by omega), zup_ne _ _ _ (by omega), zup_ne _ _ _ (by omega), zup_ne _ _ _ (by omega)]
  · rw [zup_self_ne _ _ _ a1, zup_nb _ _ _ (by decide), zup_nb _ _ _ (by decide), zup_nb _ _ _ (by decide), zup_nb _ _ _ (by decide), zup_nb _ _ _ (by decide), zup_nb _ _ _ (by decide), zup_nb _ _ _ (by decide)]
  · rw [zup_nb _ _ _ (by decide), zup_nb _ _ _ (by decide), zup_nb _ _ _ (by decide), zup_nb _ _ _ (by decide), zup_nb _ _ _ (by decide), zup_nb _ _ _ (by decide), zup_nb _ _ _ (by decide), zup_nb _ _ _ (by decide)]
theorem new_tb (hp : 92 ≤ p) {H : Nat} (hTb : zTb K I R J p w to H) (hH : H < 10) (hT : zTr K I R J p w to t a T) (hU : zTr K I R J p w to u b U) (hs : s = 1 ∨ s = 2 ∨ s = 3) (hi : i + c ≤ tn T) (hj : j + e ≤ tn U) (h2s : s = 2 → (i < tn T ∧ ts T i = 0) ∧ j < tn U ∧ ts U j = 0) : zTb K (zNewC I H s i c j e) (zNewR R H t u) (zNewJ J H s a i c b j e) p w to (H + 1) ∧ zNewC I H s i c j e 34 H = nI s ∧ ∀ g, g < H → zNewC I H s i c j e 34 g = I 34 g := by
  obtain ⟨fC, fJ⟩ := new_fr (I := I) (R := R) (J := J) (s := s) (i := i) (c := c) (j := j) (e := e) (t := t) (u := u) (a := a) (b := b) (to := to) hp H
  refine ⟨⟨by omega, by unfold zNewC; rw [zup_self], by unfold zNewJ; rw [zup_self], fun h hh => ?_⟩, ?_, fun g hg => ?_⟩
  · by_cases hhH : h = H
    · subst hhH
      refine ⟨s, i, c, j, e, t, a, u, b, T, U, hs, ?_, ?_, ?_, ?_, ?_, ?_, ?_, zTr_keep hT fC fJ, zTr_keep hU fC fJ, hi, hj, h2s⟩ <;> simp [zNewC, zNewJ, zNewR, zup]
    · have hx : ∀ {α : Type} (f : Nat → Nat → α) (x y : Nat) (v : α), zup f x H v y h = f y h := fun f x y v => by unfold zup; rw [if_neg (fun q => hhH q.2)]
      refine zEnt_keep (hTb.2.2.2 h (by omega)) fC fJ (fun b hb => ?_) ⟨?_, ?_⟩ (fun b b1 b2 => ?_)
      · unfold zNewC
        rw [zup_nb _ _ _ (by omega), hx, hx, hx, hx, hx]
      · unfold zNewR; rw [hx, hx]
      · unfold zNewR; rw [hx, hx]
      · unfold zNewJ
        rw [zup_nb _ _ _ (by omega), hx, hx, hx, hx, hx, hx, hx]
  · unfold zNewC; simp [zup]
  · unfold zNewC
    have hx : ∀ (f : zI) (x y : Nat) (v : Int32), zup f x H v y g = f y g := fun f x y v => by unfold zup; rw [if_neg (fun q => by omega)]
    rw [zup_nb _ _ _ (by decide), hx, hx, hx, hx, hx]
/-- the hole for a pair -/
theorem hole_both (hF : 200 ≤ F) (hp : 92 ≤ p) (hK : zJk K R) (hRM : zRM RM) (h2 : R 21 2 = some t) (h3 : R 21 3 = some u) (hT : zTr K I R J p w to t a T) (hU : zTr K I R J p w to u b U) (hs : s = 1 ∨ s = 2 ∨ s = 3) (hi : i + c ≤ tn T) (hj : j + e ≤ tn U) (h2s : s = 2 → (i < tn T ∧ ts T i = 0) ∧ j < tn U ∧ ts U j = 0) {H : Nat} (hTb : zTb K I R J p w to H) (r : Int32) : ∀ (d x f f' : Nat), x + d = H → d < f → d < f' →
    (f_X0_appendHole_3 F K 21 f I R (nI s) r (nI i) (nI c) (nI j) (nI e) (nI x) = some (0, I, R) ∧ f_X7_holeFor_3 F zKm RM 89 f' J (nI s) (nI a) (nI i) (nI c) (nI b) (nI j) (nI e) (nI x) = some (-9, J)) ∨
    ∃ (h H' : Nat) (I' : zI) (R' : zR) (J' : zI), h < H' ∧ H ≤ H' ∧ f_X0_appendHole_3 F K 21 f I R (nI s) r (nI i) (nI c) (nI j) (nI e) (nI x) = f_X0_appendHole_135 F K 21 I' R' (nI s) r (nI h) ∧ f_X7_holeFor_3 F zKm RM 89 f' J (nI s) (nI a) (nI i) (nI c) (nI b) (nI j) (nI e) (nI x) = some (nI h, J') ∧ zTb K I' R' J' p w to H' ∧ I' 34 h = nI s ∧ (∀ g, g < H → I' 34 g = I 34 g) ∧ zJfC p I I' R R' ∧ zJfJ to J J' ∧ (I' p = I p ∧ I' (p + 1) = I (p + 1)) ∧ (∀ b, 106 < b → J' b = J b) ∧ J' 90 = J 90 ∧ J' 89 29 = J 89 29 := by
  have hTb0 := hTb
  obtain ⟨hH, hI5, hJ16, hEnt⟩ := hTb
  have hK0 := hK
  obtain ⟨k22, ⟨k35, k36, k37, k38, k39, k40, k41⟩, r6, r7, r8, r9, r10, r11, r12⟩ := hK
  have t15 : (K t).1 = 15 := by rw [hT.2.2.2.2.2.1.1]
  have u15 : (K u).1 = 15 := by rw [hU.2.2.2.2.2.1.1]
  intro d
  induction d with
  | zero =>
    intro x f f' hx hf hf'
    obtain ⟨f, rfl⟩ : ∃ g, f = g + 1 := ⟨f - 1, by omega⟩
    obtain ⟨f', rfl⟩ : ∃ g, f' = g + 1 := ⟨f' - 1, by omega⟩
    obtain rfl : x = H := by omega
    have eC : f_X0_appendHole_3 F K 21 (f + 1) I R (nI s) r (nI i) (nI c) (nI j) (nI e) (nI x) = f_X0_appendHole_42 F K 21 I R (nI s) r (nI i) (nI c) (nI j) (nI e) (nI x) := by
      show g_X0_appendHole_3 F K 21 _ I R (nI s) r (nI i) (nI c) (nI j) (nI e) (nI x) = _
      unfold g_X0_appendHole_3
      rw [hI5, if_pos (nI_le (Nat.le_refl _) (by omega))]
    by_cases h10 : x = 10
    · left
      subst h10
      refine ⟨?_, ?_⟩
      · rw [eC]
        unfold f_X0_appendHole_42
        rw [if_neg (by decide)]
      · show g_X7_holeFor_3 F zKm RM 89 _ J (nI s) (nI a) (nI i) (nI c) (nI b) (nI j) (nI e) (nI 10) = _
        unfold g_X7_holeFor_3
        rw [hJ16, if_pos (by decide), if_pos (show nI 10 = (10 : Int32) from rfl)]
    · right
      obtain ⟨fC, fJ⟩ := new_fr (I := I) (R := R) (J := J) (s := s) (i := i) (c := c) (j := j) (e := e) (t := t) (u := u) (a := a) (b := b) (to := to) hp x
      obtain ⟨n1, n2, n3⟩ := new_tb hp hTb0 (by omega) hT hU hs hi hj h2s
      refine ⟨x, x + 1, _, _, _, by omega, by omega, ?_, ?_, n1, n2, n3, fC, fJ, ⟨?_, ?_⟩, fun b hb => ?_, ?_, ?_⟩
      · have hx10 : x < 10 := by omega
        rw [eC]
        unfold f_X0_appendHole_42
        have R1 : ∀ y, zup R 35 x (some t) 21 y = R 21 y := fun y => zup_nb _ _ _ (by decide) _
        have R2 : ∀ y, zup (zup R 35 x (some t)) 38 x (some u) 21 y = R 21 y := fun y => by rw [zup_nb _ _ _ (by decide), R1]
        rw [if_pos (show nI x < (10 : Int32) from nI_lt (b := 10) hx10 (by decide)), hI5, if_pos rfl, r6, zbd_s, zdr_s (t := 1) (by rw [k35]), zbd_s, zwr_s (by rw [k35]; exact hx10) (by rw [k35]; decide), zbd_s, r7, zbd_s, h2, zbd_s, zdr_s (t := 4) (by rw [k36]), zbd_s, zwrR_s (by rw [k36]; exact hx10) (by rw [k36]; decide) (fun b hb => by cases hb; exact t15), zbd_s]
        simp only [R1, R2, r8, r9, r10, r11, r12, h3, zbd_s, zdr_s (show (K 36).1 = 1 by rw [k37]), zdr_s (show (K 37).1 = 1 by rw [k38]), zdr_s (show (K 38).1 = 4 by rw [k39]), zdr_s (show (K 39).1 = 1 by rw [k40]), zdr_s (show (K 40).1 = 1 by rw [k41]), fun I v => zwr_s (K := K) (I := I) (a := 36) (j := x) (v := v) (by rw [k37]; exact hx10) (by rw [k37]; decide), fun I v => zwr_s (K := K) (I := I) (a := 37) (j := x) (v := v) (by rw [k38]; exact hx10) (by rw [k38]; decide), fun I v => zwr_s (K := K) (I := I) (a := 39) (j := x) (v := v) (by rw [k40]; exact hx10) (by rw [k40]; decide), fun I v => zwr_s (K := K) (I := I) (a := 40) (j := x) (v := v) (by rw [k41]; exact hx10) (by rw [k41]; decide), fun R => zwrR_s (K := K) (R := R) (a := 38) (j := x) (v := some u) (t := 15) (by rw [k39]; exact hx10) (by rw [k39]; decide) (fun b hb => by cases hb; exact u15)]
        have hI5' : zup (zup (zup (zup (zup I 34 x (nI s)) 36 x (nI i)) 37 x (nI c)) 39 x (nI j)) 40 x (nI e) 21 5 = nI x := by
          rw [zup_nb _ _ _ (by decide), zup_nb _ _ _ (by decide), zup_nb _ _ _ (by decide), zup_nb _ _ _ (by decide), zup_nb _ _ _ (by decide)]; exact hI5
        rw [hI5', nI_1]
        rfl
      · have hx10 : x < 10 := by omega
        have q17 : RM 89 17 = some 100 := hRM 89 17 (by decide) (by decide) (by decide)
        have q18 : RM 89 18 = some 101 := hRM 89 18 (by decide) (by decide) (by decide)
        have q19 : RM 89 19 = some 102 := hRM 89 19 (by decide) (by decide) (by decide)
        have q20 : RM 89 20 = some 103 := hRM 89 20 (by decide) (by decide) (by decide)
        have q21 : RM 89 21 = some 104 := hRM 89 21 (by decide) (by decide) (by decide)
        have q22 : RM 89 22 = some 105 := hRM 89 22 (by decide) (by decide) (by decide)
        have q23 : RM 89 23 = some 106 := hRM 89 23 (by decide) (by decide) (by decide)
        have zw : ∀ (y : Nat) (v : Int32) (J : zI), 100 ≤ y → y ≤ 106 → zwr zKm J y (nI x) v = some (zup J y x v) := fun y v J h1 h2 => by
          have : y = 100 ∨ y = 101 ∨ y = 102 ∨ y = 103 ∨ y = 104 ∨ y = 105 ∨ y = 106 := by omega
          rcases this with rfl | rfl | rfl | rfl | rfl | rfl | rfl <;> exact zwr_s hx10 (by decide)
        have zd : ∀ y : Nat, 100 ≤ y → y ≤ 106 → zdr zKm (some y) 1 = some y := fun y h1 h2 => by
          have : y = 100 ∨ y = 101 ∨ y = 102 ∨ y = 103 ∨ y = 104 ∨ y = 105 ∨ y = 106 := by omega
          rcases this with rfl | rfl | rfl | rfl | rfl | rfl | rfl <;> rfl
        have zn : ∀ (J : zI) (y : Nat) (v : Int32), 100 ≤ y → zup J y x v 89 16 = J 89 16 := fun J y v h1 => zup_nb _ _ _ (by omega) _
        show g_X7_holeFor_3 F zKm RM 89 _ J (nI s) (nI a) (nI i) (nI c) (nI b) (nI j) (nI e) (nI x) = _
        unfold g_X7_holeFor_3
        rw [hJ16, if_pos (nI_le (Nat.le_refl _) (by omega)), if_neg (show ¬ (nI x = (10 : Int32)) from fun q => h10 (nI_inj (b := 10) (by omega) (by omega) q))]
        simp only [q17, q18, q19, q20, q21, q22, q23, zbd_s, zd 100 (by decide) (by decide), zd 101 (by decide) (by decide), zd 102 (by decide) (by decide), zd 103 (by decide) (by decide), zd 104 (by decide) (by decide), zd 105 (by decide) (by decide), zd 106 (by decide) (by decide), zw 100 _ _ (by decide) (by decide), zw 101 _ _ (by decide) (by decide), zw 102 _ _ (by decide) (by decide), zw 103 _ _ (by decide) (by decide), zw 104 _ _ (by decide) (by decide), zw 105 _ _ (by decide) (by decide), zw 106 _ _ (by decide) (by decide), zn _ 100 _ (by decide), zn _ 101 _ (by decide), zn _ 102 _ (by decide), zn _ 103 _ (by decide), zn _ 104 _ (by decide), zn _ 105 _ (by decide), zn _ 106 _ (by decide), hJ16, zup_self, nI_1, nI_pred]
        rfl
      · unfold zNewC
        rw [zup_ne _ _ _ (by omega), zup_ne _ _ _ (by omega), zup_ne _ _ _ (by omega), zup_ne _ _ _ (by omega), zup_ne _ _ _ (by omega), zup_ne _ _ _ (by omega)]
      · unfold zNewC
        rw [zup_ne _ _ _ (by omega), zup_ne _ _ _ (by omega), zup_ne _ _ _ (by omega), zup_ne _ _ _ (by omega), zup_ne _ _ _ (by omega), zup_ne _ _ _ (by omega)]
      · unfold zNewJ
        rw [zup_ne _ _ _ (by omega), zup_ne _ _ _ (by omega), zup_ne _ _ _ (by omega), zup_ne _ _ _ (by omega), zup_ne _ _ _ (by omega), zup_ne _ _ _ (by omega), zup_ne _ _ _ (by omega), zup_ne _ _ _ (by omega)]
      · unfold zNewJ
        rw [zup_ne _ _ _ (by decide), zup_ne _ _ _ (by decide), zup_ne _ _ _ (by decide), zup_ne _ _ _ (by decide), zup_ne _ _ _ (by decide), zup_ne _ _ _ (by decide), zup_ne _ _ _ (by decide), zup_ne _ _ _ (by decide)]
      · unfold zNewJ
        rw [zup_self_ne _ _ _ (by decide), zup_nb _ _ _ (by decide), zup_nb _ _ _ (by decide), zup_nb _ _ _ (by decide), zup_nb _ _ _ (by decide), zup_nb _ _ _ (by decide), zup_nb _ _ _ (by decide), zup_nb _ _ _ (by decide)]
  | succ d ih =>
    intro x f f' hx hf hf'
    obtain ⟨f, rfl⟩ : ∃ g, f = g + 1 := ⟨f - 1, by omega⟩
    obtain ⟨f', rfl⟩ : ∃ g, f' = g + 1 := ⟨f' - 1, by omega⟩
    obtain ⟨v, hv, v1, v2⟩ := pair_both (F := F) (p := p) (w := w) (to := to) hF hK0 hRM h2 h3 hT hU hs hi hj h2s (show x < 10 by omega) (hEnt x (by omega))
    have eC : f_X0_appendHole_3 F K 21 (f + 1) I R (nI s) r (nI i) (nI c) (nI j) (nI e) (nI x) = if v = (0 : Int32) then f_X0_appendHole_3 F K 21 f I R (nI s) r (nI i) (nI c) (nI j) (nI e) (nI (x + 1)) else f_X0_appendHole_42 F K 21 I R (nI s) r (nI i) (nI c) (nI j) (nI e) (nI x) := by
      show g_X0_appendHole_3 F K 21 _ I R (nI s) r (nI i) (nI c) (nI j) (nI e) (nI x) = _
      unfold g_X0_appendHole_3
      rw [hI5, if_neg (nI_ge (by omega) (by omega)), if_neg (show ¬ ((10 : Int32) ≤ nI x) from nI_ge (b := 10) (by omega) (by omega)), v1, zbd_s, nI_1]
    have eJ : f_X7_holeFor_3 F zKm RM 89 (f' + 1) J (nI s) (nI a) (nI i) (nI c) (nI b) (nI j) (nI e) (nI x) = if v = (0 : Int32) then f_X7_holeFor_3 F zKm RM 89 f' J (nI s) (nI a) (nI i) (nI c) (nI b) (nI j) (nI e) (nI (x + 1)) else some (nI x, J) := by
      show g_X7_holeFor_3 F zKm RM 89 _ J (nI s) (nI a) (nI i) (nI c) (nI b) (nI j) (nI e) (nI x) = _
      unfold g_X7_holeFor_3
      rw [hJ16, if_neg (nI_ge (by omega) (by omega)), v2, zbd_s, nI_1]
    rcases hv with rfl | rfl
    · rw [eC, eJ, if_pos rfl, if_pos rfl]
      exact ih (x + 1) f f' (by omega) (by omega) (by omega)
    · right
      by_cases hsx : I 34 x = nI s
      · refine ⟨x, H, I, R, J, by omega, Nat.le_refl _, ?_, by rw [eJ, if_neg (by decide)], hTb0, hsx, fun _ _ => rfl, zJfC_refl _ _ _, zJfJ_refl _ _, ⟨rfl, rfl⟩, fun _ _ => rfl, rfl, rfl⟩
        rw [eC, if_neg (by decide)]
        unfold f_X0_appendHole_42
        rw [if_pos (show nI x < (10 : Int32) from nI_lt (b := 10) (by omega) (by decide)), hI5, if_neg (fun q => by have := nI_inj (by omega) (by omega) q; omega)]
      · exfalso
        obtain ⟨s', i', c', j', e', t1, o1, t2, o2, T1, T2, hs', ⟨f1, g1⟩, ⟨f2, g2⟩, ⟨f3, g3⟩, ⟨f4, g4⟩, ⟨f5, g5⟩, -⟩ := hEnt x (by omega)
        unfold f_X0_standsFor at v1
        rw [r7, zbd_s, zdr_s (t := 4) (by rw [k36]), zbd_s, zrdR_s (by rw [k36]; show x < 10; omega) (by rw [k36]; decide), zbd_s, f2, r10, zbd_s, zdr_s (t := 4) (by rw [k39]), zbd_s, zrdR_s (by rw [k39]; show x < 10; omega) (by rw [k39]; decide), zbd_s, f5, zcs_s, zcs_s, r6, zbd_s, zdr_s (t := 1) (by rw [k35]), zbd_s, zrd_s (by rw [k35]; show x < 10; omega) (by rw [k35]; decide), zbd_s, if_neg hsx] at v1
        cases v1
end ZHP
