/-! A new term, and the join of two terms into it -/
def zTnK (K : zK) (n : Nat) : zK := zset (zset (zset (zset K n (15, 0)) (n + 1) (1, 32)) (n + 2) (1, 32)) (n + 3) (1, 32)
def zTnI (I : zI) (n : Nat) : zI := zup (zclr (zclr (zclr (zclr I n 0) (n + 1) 0) (n + 2) 0) (n + 3) 0) n 3 0
def zTnR (R : zR) (n : Nat) : zR := zup (zup (zup (zclr R n none) n 0 (some (n + 1))) n 1 (some (n + 2))) n 2 (some (n + 3))
section ZTN
variable {F : Nat} {K : zK} {I : zI} {R : zR} {n : Nat}
theorem X5_new : f_X5_init F (n + 1) (zset K n (15, 0)) (zclr I n 0) (zclr R n none) n = some (n + 4, zTnK K n, zTnI I n, zTnR R n) := by
  have e1 : (zset (zset K n (15, 0)) (n + 1) (1, 32) n).1 = 15 := by rw [zset_ne _ _ (by omega), zset_self]
  have e2 : (zset (zset (zset K n (15, 0)) (n + 1) (1, 32)) (n + 1 + 1) (1, 32) n).1 = 15 := by rw [zset_ne _ _ (by omega)]; exact e1
  have e3 : (zset (zset (zset (zset K n (15, 0)) (n + 1) (1, 32)) (n + 1 + 1) (1, 32)) (n + 1 + 1 + 1) (1, 32) n).1 = 15 := by rw [zset_ne _ _ (by omega)]; exact e2
  unfold f_X5_init
  rw [zbd3_s, if_pos e1, zbd_s, zbd3_s, if_pos e2, zbd_s, zbd3_s, if_pos e3, zbd_s, zbd_s]
  rfl
theorem zTn_K : zTnK K n n = (15, 0) ∧ zTnK K n (n + 1) = (1, 32) ∧ zTnK K n (n + 2) = (1, 32) ∧ zTnK K n (n + 3) = (1, 32) ∧ (∀ b, b < n → zTnK K n b = K b) ∧ ∀ b, n + 4 ≤ b → zTnK K n b = K b := by
  unfold zTnK
  refine ⟨?_, ?_, ?_, ?_, fun b hb => ?_, fun b hb => ?_⟩
  · rw [zset_ne _ _ (by omega), zset_ne _ _ (by omega), zset_ne _ _ (by omega), zset_self]
  · rw [zset_ne _ _ (by omega), zset_ne _ _ (by omega), zset_self]
  · rw [zset_ne _ _ (by omega), zset_self]
  · rw [zset_self]
  · rw [zset_ne _ _ (by omega), zset_ne _ _ (by omega), zset_ne _ _ (by omega), zset_ne _ _ (by omega)]
  · rw [zset_ne _ _ (by omega), zset_ne _ _ (by omega), zset_ne _ _ (by omega), zset_ne _ _ (by omega)]
theorem zTn_I : zTnI I n n 3 = 0 ∧ zTnI I n (n + 3) 0 = 0 ∧ (∀ b, b < n → zTnI I n b = I b) ∧ ∀ b, n + 4 ≤ b → zTnI I n b = I b := by
  unfold zTnI
  refine ⟨zup_self _ _ _ _, ?_, fun b hb => ?_, fun b hb => ?_⟩
  · rw [zup_nb _ _ _ (by omega), zclr_self]
  · rw [zup_ne _ _ _ (by omega), zclr_ne _ _ (by omega), zclr_ne _ _ (by omega), zclr_ne _ _ (by omega), zclr_ne _ _ (by omega)]
  · rw [zup_ne _ _ _ (by omega), zclr_ne _ _ (by omega), zclr_ne _ _ (by omega), zclr_ne _ _ (by omega), zclr_ne _ _ (by omega)]
theorem zTn_R : zTnR R n n 0 = some (n + 1) ∧ zTnR R n n 1 = some (n + 2) ∧ zTnR R n n 2 = some (n + 3) ∧ ∀ b, b ≠ n → zTnR R n b = R b := by
  unfold zTnR
  refine ⟨?_, ?_, zup_self _ _ _ _, fun b hb => ?_⟩
  · rw [zup_self_ne _ _ _ (by decide), zup_self_ne _ _ _ (by decide), zup_self]
  · rw [zup_self_ne _ _ _ (by decide), zup_self]
  · rw [zup_ne _ _ _ hb, zup_ne _ _ _ hb, zup_ne _ _ _ hb, zclr_ne _ _ hb]
end ZTN
section ZJD
variable {F : Nat} {K K' : zK} {I I' : zI} {R R' : zR} {J J' : zI} {RM : zR} {n p p' to to' t a u b o H : Nat} {w : Nat × Nat} {T U : Tm}
theorem zTr_keep2 (h : zTr K I R J p w to t o T) (hK : ∀ b, b < p → K' b = K b) (hI : ∀ b, 92 ≤ b → b < p → I' b = I b ∧ R' b = R b) (hJ : ∀ q, q < to ∨ to + 97 ≤ q → J' 90 q = J 90 q) : zTr K' I' R' J' p w to t o T := by
  obtain ⟨h1, h2, h3, h4, h5, h6, h7⟩ := h
  exact ⟨h1, h2, h3, h4, h5, zTc_keep h6 (fun b b1 b2 => ⟨hK b (by omega), hI b (by omega) (by omega)⟩), zTm_keep h7 (fun q hq => hJ _ (by omega)) h5.1.2.1⟩
theorem zTr_move (h : zTr K I R J p w to t o T) (hp : p ≤ p') (hw : w.1 ≤ to' ∧ to' + 97 ≤ w.2) : zTr K I R J p' w to' t o T := by
  obtain ⟨h1, h2, h3, h4, h5, h6, h7⟩ := h
  exact ⟨h1, by omega, h3, by omega, h5, h6, h7⟩
theorem zTb_keep2 (h : zTb K I R J p w to H) (hK : ∀ b, b < p → K' b = K b) (hI : ∀ b, 92 ≤ b → b < p → I' b = I b ∧ R' b = R b) (hJ : ∀ q, q < to ∨ to + 97 ≤ q → J' 90 q = J 90 q) (h1 : ∀ b, b = 34 ∨ b = 36 ∨ b = 37 ∨ b = 39 ∨ b = 40 → I' b = I b) (h2 : R' 35 = R 35 ∧ R' 38 = R 38) (h3 : ∀ b, 100 ≤ b → b ≤ 106 → J' b = J b) (h5 : I' 21 5 = I 21 5) (h16 : J' 89 16 = J 89 16) : zTb K' I' R' J' p w to H := by
  obtain ⟨a1, a2, a3, a4⟩ := h
  refine ⟨a1, by rw [h5]; exact a2, by rw [h16]; exact a3, fun h hh => ?_⟩
  obtain ⟨s', i', c', j', e', t1, o1, t2, o2, T1, T2, hs', ⟨f1, g1⟩, ⟨f2, g2⟩, ⟨f3, g3⟩, ⟨f4, g4⟩, ⟨f5, g5⟩, ⟨f6, g6⟩, ⟨f7, g7⟩, m, n, hi', hj', h2s'⟩ := a4 h hh
  exact ⟨s', i', c', j', e', t1, o1, t2, o2, T1, T2, hs', ⟨by rw [h1 34 (by omega)]; exact f1, by rw [h3 100 (by omega) (by omega)]; exact g1⟩, ⟨by rw [h2.1]; exact f2, by rw [h3 101 (by omega) (by omega)]; exact g2⟩, ⟨by rw [h1 36 (by omega)]; exact f3, by rw [h3 102 (by omega) (by omega)]; exact g3⟩, ⟨by rw [h1 37 (by omega)]; exact f4, by rw [h3 103 (by omega) (by omega)]; exact g4⟩, ⟨by rw [h2.2]; exact f5, by rw [h3 104 (by omega) (by omega)]; exact g5⟩, ⟨by rw [h1 39 (by omega)]; exact f6, by rw [h3 105 (by omega) (by omega)]; exact g6⟩, ⟨by rw [h1 40 (by omega)]; exact f7, by rw [h3 106 (by omega) (by omega)]; exact g7⟩, zTr_keep2 m hK hI hJ, zTr_keep2 n hK hI hJ, hi', hj', h2s'⟩
theorem zTb_move (h : zTb K I R J p w to H) (hp : p ≤ p') (hw : w.1 ≤ to' ∧ to' + 97 ≤ w.2) : zTb K I R J p' w to' H := by
  obtain ⟨a1, a2, a3, a4⟩ := h
  refine ⟨a1, a2, a3, fun h hh => ?_⟩
  obtain ⟨s', i', c', j', e', t1, o1, t2, o2, T1, T2, hs', f1, f2, f3, f4, f5, f6, f7, m, n, hr⟩ := a4 h hh
  exact ⟨s', i', c', j', e', t1, o1, t2, o2, T1, T2, hs', f1, f2, f3, f4, f5, f6, f7, zTr_move m hp hw, zTr_move n hp hw, hr⟩
/-- what a join as a whole touches -/
def zJoC (n : Nat) (K K' : zK) (I I' : zI) (R R' : zR) : Prop := (∀ b, b < n → K' b = K b) ∧ (∀ b, n + 4 ≤ b → K' b = K b) ∧ (∀ b, b < n → b ≠ 21 → b ≠ 34 → b ≠ 36 → b ≠ 37 → b ≠ 39 → b ≠ 40 → I' b = I b) ∧ (∀ k, k ≠ 5 → I' 21 k = I 21 k) ∧ (∀ b, b < n → b ≠ 21 → b ≠ 35 → b ≠ 38 → R' b = R b) ∧ ∀ k, k < 2 ∨ 4 < k → R' 21 k = R 21 k
def zJoJ (to : Nat) (J J' : zI) : Prop := (∀ b, b ≠ 89 → b ≠ 90 → b ≠ 92 → b ≠ 93 → b < 100 ∨ 111 < b → J' b = J b) ∧ (∀ k, k ≠ 16 → k ≠ 29 → J' 89 k = J 89 k) ∧ ∀ q, q < to ∨ to + 97 ≤ q → J' 90 q = J 90 q
theorem tm_of_join {L : List zNd} (hPt : zPt I J p to L) (hLk : zLk I L H) (he : stL L = []) : ∃ P : Tm, tWF P ∧ (tn P = L.length ∧ ∀ i, i < tn P → I (p + 1) i = nI (tcode P i)) ∧ zTm (J 90) to P := by
  obtain ⟨q1, q2, q3, q4⟩ := hPt
  obtain ⟨l1, l2, l3⟩ := hLk
  obtain ⟨P, p1, p2, p3, p4, p5⟩ := tm_of_list l1 he q1
  have hv : ∀ i, i < L.length → vOk (vAt L i) ∧ ((vAt L i).1 ≠ 0 → (vAt L i).2.1 < H ∧ I 34 (vAt L i).2.1 = nI (vAt L i).1) := fun i hi => l2 i _ (vAt_some hi)
  have hN : tNd P := fun i hi => by
    rw [p1] at hi
    obtain ⟨a1, a2, a3, a4⟩ := p2 i hi
    obtain ⟨b1, b2, b3, b4, b5, b6⟩ := (hv i hi).1
    rw [a1, a2, a3, a4]
    exact ⟨b1, b2, b3, b4, b5, b6, l3 i hi⟩
  refine ⟨P, ⟨p3, hN, fun i j hi hj h1 h2 h3 => ?_, p4, p5⟩, ⟨p1, fun i hi => ?_⟩, by rw [p1]; exact q3, fun i hi => ?_⟩
  · have n1 := (hN i hi).1
    have n2 := (hN j hj).1
    rw [p1] at hi hj
    obtain ⟨a1, a2, -⟩ := p2 i hi
    obtain ⟨b1, b2, -⟩ := p2 j hj
    have c1 := ((hv i hi).2 (by rw [← a1]; exact h1)).2
    have c2 := ((hv j hj).2 (by rw [← b1]; exact h2)).2
    rw [← a1, ← a2] at c1
    rw [← b1, ← b2, ← h3, c1] at c2
    exact nI_inj (by omega) (by omega) c2
  · rw [p1] at hi
    obtain ⟨a1, a2, a3, -⟩ := p2 i hi
    obtain ⟨b1, -⟩ := q4 i _ (vAt_some hi)
    unfold tcode
    rw [a1, a2, a3]
    exact b1
  · rw [p1] at hi
    obtain ⟨a1, a2, a3, -⟩ := p2 i hi
    obtain ⟨-, b1, b2, b3⟩ := q4 i _ (vAt_some hi)
    rw [a1, a2, a3]
    exact ⟨b1, b2, b3⟩
theorem joined_both (hF : 5000 ≤ F) (hcf : zCf K R) (hn : 92 ≤ n) (hRM : zRM RM) (hto : 5460 ≤ to) (hto2 : to + 97 ≤ 5751) (hT : zTr K I R J n w to t a T) (hU : zTr K I R J n w to u b U) (hTb : zTb K I R J n w to H) (f0 : I 21 0 = if J 90 776 = 1 then 1 else 0) (f1 : I 21 1 = if J 90 777 = 1 then 1 else 0) :
    ∃ (o : Option Nat) (K' : zK) (I' : zI) (R' : zR) (J' : zI) (v : Int32), f_X0_joined F n K I R 21 (some t) (some u) = some (o, n + 4, K', I', R') ∧ f_X7_joins F zKm J RM 89 (nI a) (nI b) (nI to) = some (v, J') ∧ zJoC n K K' I I' R R' ∧ zJoJ to J J' ∧ ((o = none ∧ v = 0) ∨ (o = some n ∧ v = 1 ∧ (∃ P, tWF P ∧ zTc K' I' R' n P ∧ zTm (J' 90) to P) ∧ ∃ H', zTb K' I' R' J' n w to H')) := by
  have hK := hcf.1
  have hKa : ∀ x, x < n → zTnK K n x = K x := zTn_K.2.2.2.2.1
  have k22 : (K 21).1 = 10 := by rw [hK 21 (by decide)]; rfl
  have k22' : (zTnK K n 21).1 = 10 := by rw [hKa 21 (by omega)]; exact k22
  have r0 : RM 89 0 = some 90 := hRM 89 0 (by decide) (by decide) (by decide)
  have r5 : RM 89 5 = some 92 := hRM 89 5 (by decide) (by decide) (by decide)
  have r6 : RM 89 6 = some 93 := hRM 89 6 (by decide) (by decide) (by decide)
  obtain ⟨tK1, tK2, tK3, tK4, tK5, tK6⟩ := zTn_K (K := K) (n := n)
  obtain ⟨tI1, tI2, tI3, tI4⟩ := zTn_I (I := I) (n := n)
  obtain ⟨tR1, tR2, tR3, tR4⟩ := zTn_R (R := zup (zup R 21 2 (some t)) 21 3 (some u)) (n := n)
  have hTw := hT.2.2.2.2.1
  have hUw := hU.2.2.2.2.1
  have hTm := hT.2.2.2.2.2.2
  have hUm := hU.2.2.2.2.2.2
  have hta := hT.2.2.1
  have hub := hU.2.2.1
  have hR22 : ∀ k, k < 2 ∨ 4 < k → zup (zTnR (zup (zup R 21 2 (some t)) 21 3 (some u)) n) 21 4 (some n) 21 k = R 21 k := fun k hk => by
    rw [zup_self_ne _ _ _ (by omega), tR4 21 (by omega), zup_self_ne _ _ _ (by omega), zup_self_ne _ _ _ (by omega)]
  have hRb : ∀ x, x < n → x ≠ 21 → zup (zTnR (zup (zup R 21 2 (some t)) 21 3 (some u)) n) 21 4 (some n) x = R x := fun x h1 h2 => by
    rw [zup_ne _ _ _ h2, tR4 x (by omega), zup_ne _ _ _ h2, zup_ne _ _ _ h2]
  have hRfin : ∀ k, 6 ≤ k → k < 13 → R 21 k = zRt 21 k := fun k h1 h2 => hcf.2 21 k (by unfold zFin; omega)
  have c1 := X7_counts (F := F) (J := J) (by omega) r0 hta (w := 92) rfl (by decide) hTw.1 (tWF_r hTw) hTm
  have c2 := X7_counts (F := F) (J := zrw J 92 0 (tn T) (fun j => nI (tsp T j))) (by omega) r0 hub (w := 93) rfl (by decide) hUw.1 (tWF_r hUw) (by rw [zrw_ne _ _ _ _ (by decide)]; exact hUm)
  obtain ⟨p1, p2, p3⟩ := zPush_all (zup (zup (zrw (zrw J 92 0 (tn T) (fun j => nI (tsp T j))) 93 0 (tn U) (fun j => nI (tsp U j))) 90 to (0 : Int32)) 89 29 (0 : Int32)) 0 (0, 0, 0, 0, 0)
  obtain ⟨J5, hJ5⟩ : ∃ x, x = zPush (zup (zup (zrw (zrw J 92 0 (tn T) (fun j => nI (tsp T j))) 93 0 (tn U) (fun j => nI (tsp U j))) 90 to (0 : Int32)) 89 29 (0 : Int32)) 0 (0, 0, 0, 0, 0) := ⟨_, rfl⟩
  rw [← hJ5] at p1 p2 p3
  have j93 : ∀ y, y < tn T → J5 92 y = nI (tsp T y) := fun y hy => by rw [p1.1 92 (by decide) (by decide), zup_ne _ _ _ (by decide), zup_ne _ _ _ (by decide), zrw_ne _ _ _ _ (by decide), zrw_in _ _ _ (Nat.zero_le _) hy]
  have j94 : ∀ y, y < tn U → J5 93 y = nI (tsp U y) := fun y hy => by rw [p1.1 93 (by decide) (by decide), zup_ne _ _ _ (by decide), zup_ne _ _ _ (by decide), zrw_in _ _ _ (Nat.zero_le _) hy]
  have j91 : ∀ q, q ≠ to → J5 90 q = J 90 q := fun q hq => by rw [p1.1 90 (by decide) (by decide), zup_nb _ _ _ (by decide), zup_self_ne _ _ _ hq, zrw_ne _ _ _ _ (by decide), zrw_ne _ _ _ _ (by decide)]
  have j91to : J5 90 to = 0 := by rw [p1.1 90 (by decide) (by decide), zup_nb _ _ _ (by decide), zup_self]
  have jb : ∀ x, x ≠ 89 → x ≠ 90 → x ≠ 92 → x ≠ 93 → x < 107 ∨ 111 < x → J5 x = J x := fun x h1 h2 h3 h4 h5 => by rw [p1.1 x h1 h5, zup_ne _ _ _ h1, zup_ne _ _ _ h2, zrw_ne _ _ _ _ h4, zrw_ne _ _ _ _ h3]
  have j90 : ∀ k, k ≠ 29 → J5 89 k = J 89 k := fun k hk => by rw [p1.2.1 k hk, zup_self_ne _ _ _ hk, zup_nb _ _ _ (by decide), zrw_ne _ _ _ _ (by decide), zrw_ne _ _ _ _ (by decide)]
  have eJ : f_X7_joins F zKm J RM 89 (nI a) (nI b) (nI to) = f_X7_joins_39 F zKm RM 89 F J5 (nI a) (nI b) (nI to) := by
    unfold f_X7_joins
    rw [r5, zbd_s, c1, zbd_s, r6, zbd_s, c2, zbd_s, r0, zbd_s, zd91, zbd_s, zwr_s (by rw [zKm91]; show to < 5751; omega) (by decide), zbd_s, zbd_s, X7_pushes (s := 0) hRM (by decide) (show zup (zup (zrw (zrw J 92 0 (tn T) (fun j => nI (tsp T j))) 93 0 (tn U) (fun j => nI (tsp U j))) 90 to (0 : Int32)) 89 29 (0 : Int32) 89 29 = nI 0 from zup_self _ _ _ _) (Or.inl rfl), zbd_s, hJ5]
  have kI : ∀ x, 92 ≤ x → x < n → zTnI I n x = I x ∧ zup (zTnR (zup (zup R 21 2 (some t)) 21 3 (some u)) n) 21 4 (some n) x = R x := fun x h1 h2 => ⟨tI3 x h2, hRb x h2 (by omega)⟩
  have kJ : ∀ q, q < to ∨ to + 97 ≤ q → J5 90 q = J 90 q := fun q hq => j91 q (by omega)
  have hT5 := zTr_keep2 (K' := zTnK K n) (J' := J5) hT tK5 kI kJ
  have hU5 := zTr_keep2 (K' := zTnK K n) (J' := J5) hU tK5 kI kJ
  have hTb5 := zTb_keep2 (K' := zTnK K n) (J' := J5) hTb tK5 kI kJ (fun x hx => tI3 x (by omega)) ⟨hRb 35 (by omega) (by decide), hRb 38 (by omega) (by decide)⟩ (fun x h1 h2 => jb x (by omega) (by omega) (by omega) (by omega) (by omega)) (by rw [tI3 21 (by omega)]) (j90 16 (by decide))
  have hrel : zJr (zTnK K n) (zTnI I n) (zup (zTnR (zup (zup R 21 2 (some t)) 21 3 (some u)) n) 21 4 (some n)) J5 n w to t a u b T U [] H := by
    refine ⟨⟨⟨?_, ⟨?_, ?_, ?_, ?_, ?_, ?_, ?_⟩, ?_, ?_, ?_, ?_, ?_, ?_, ?_⟩, zup_self _ _ _ _, ⟨tK1, tK2⟩, by rw [zup_nb _ _ _ (by omega)]; exact tR1, hto, hto2, hn, by rw [tI3 21 (by omega), j91 _ (by omega)]; exact f0, by rw [tI3 21 (by omega), j91 _ (by omega)]; exact f1⟩, ⟨?_, ?_⟩, hT5, hU5, hTb5, ⟨Nat.zero_le _, tI1, j91to, fun i v h => (by cases h)⟩, ⟨okL_nil, fun i v h => (by cases h), fun i h => (by cases h)⟩, j93, j94⟩
    · rw [tK5 _ (by omega)]; exact hK 21 (by decide)
    · rw [tK5 _ (by omega)]; exact hK 34 (by decide)
    · rw [tK5 _ (by omega)]; exact hK 35 (by decide)
    · rw [tK5 _ (by omega)]; exact hK 36 (by decide)
    · rw [tK5 _ (by omega)]; exact hK 37 (by decide)
    · rw [tK5 _ (by omega)]; exact hK 38 (by decide)
    · rw [tK5 _ (by omega)]; exact hK 39 (by decide)
    · rw [tK5 _ (by omega)]; exact hK 40 (by decide)
    · rw [hR22 _ (by decide)]; exact hRfin 6 (by decide) (by decide)
    · rw [hR22 _ (by decide)]; exact hRfin 7 (by decide) (by decide)
    · rw [hR22 _ (by decide)]; exact hRfin 8 (by decide) (by decide)
    · rw [hR22 _ (by decide)]; exact hRfin 9 (by decide) (by decide)
    · rw [hR22 _ (by decide)]; exact hRfin 10 (by decide) (by decide)
    · rw [hR22 _ (by decide)]; exact hRfin 11 (by decide) (by decide)
    · rw [hR22 _ (by decide)]; exact hRfin 12 (by decide) (by decide)
    · rw [zup_self_ne _ _ _ (by decide), tR4 21 (by omega), zup_self_ne _ _ _ (by decide), zup_self]
    · rw [zup_self_ne _ _ _ (by decide), tR4 21 (by omega), zup_self]
  obtain ⟨v, I', R', J', k, hv, g1, g2, g3, g4, g5, g6⟩ := join_all (F := F) (by omega) hRM 10 0 0 0 _ _ _ [] H [] 0 hTw.1.1 hUw.1.1 hTw.1.2.2.2.2.2.1 hUw.1.2.2.2.2.2.1 (by decide) hrel rfl p2 (by decide) p3
  have hk : k ≤ 33 := by simpa using g4
  obtain ⟨f, hf⟩ : ∃ f, F = f + k := ⟨F - k, by omega⟩
  have fC : ∀ (I2 : zI), (∀ x, x ≠ n + 2 → x ≠ n + 3 → I2 x = I' x) → zJoC n K (zTnK K n) I I2 R R' := fun I2 h2 => ⟨tK5, tK6, fun x x1 x2 x3 x4 x5 x6 x7 => by rw [h2 x (by omega) (by omega), g2.1 x x2 x3 x4 x5 x6 x7 (by omega) (by omega), tI3 x x1], fun k hk => by rw [h2 21 (by omega) (by omega), g2.2.1 k hk, tI3 21 (by omega)], fun x x1 x2 x3 x4 => by rw [g2.2.2 x x3 x4, hRb x x1 x2], fun k hk => by rw [g2.2.2 21 (by decide) (by decide), hR22 k hk]⟩
  have fJ : zJoJ to J J' := ⟨fun x x1 x2 x3 x4 x5 => by rw [g3.1 x x1 x2 x5, jb x x1 x2 x3 x4 (by omega)], fun k k1 k2 => by rw [g3.2.1 k k1 k2, j90 k k2], fun q hq => by rw [g3.2.2 q hq, j91 q (by omega)]⟩
  have eC : ∀ (o : Option Nat) (I2 : zI), (zbd3 (f_X0_joinNodes F (zTnK K n) 10 (zTnI I n) (zup (zTnR (zup (zup R 21 2 (some t)) 21 3 (some u)) n) 21 4 (some n)) 21 (0 : Int32) (0 : Int32) (0 : Int32)) fun v15 I16 R17 => if v15 = (0 : Int32) then some (none, n + 4, zTnK K n, I16, R17) else (zbd (some (R17 21 4)) fun o20 => zbd (zdr (zTnK K n) o20 15) fun a21 => zbd (f_X5_settle F (zTnK K n) I16 R17 a21) fun I24 => zbd (some (R17 21 4)) fun o26 => some (o26, n + 4, zTnK K n, I24, R17))) = some (o, n + 4, zTnK K n, I2, R') → f_X0_joined F n K I R 21 (some t) (some u) = some (o, n + 4, zTnK K n, I2, R') := fun o I2 h => by
    unfold f_X0_joined
    rw [if_pos k22, zbd_s, zbd_s, zbd4_s, X5_new, zbd4_s, if_pos k22', zbd_s]
    exact h
  rcases hv with rfl | rfl
  · refine ⟨none, zTnK K n, I', R', J', 0, eC none I' ?_, ?_, fC I' (fun _ _ _ => rfl), fJ, Or.inl ⟨rfl, rfl⟩⟩
    · have g1' : f_X0_joinNodes F (zTnK K n) 10 (zTnI I n) (zup (zTnR (zup (zup R 21 2 (some t)) 21 3 (some u)) n) 21 4 (some n)) 21 (0 : Int32) (0 : Int32) (0 : Int32) = some (0, I', R') := g1
      rw [g1', zbd3_s, if_pos rfl]
    · rw [eJ]
      have := g5 rfl f
      rw [← hf] at this
      exact this
  · obtain ⟨L', H', y1, y2, y3, y4, y5, y6⟩ := g6 rfl
    obtain ⟨hc', -, hT', hU', hTb', hPt', hLk', -⟩ := id y2
    obtain ⟨P, q1, ⟨q2, q3⟩, q4⟩ := tm_of_join hPt' hLk' y3
    have hR'n : ∀ x, R' n x = zTnR (zup (zup R 21 2 (some t)) 21 3 (some u)) n n x := fun x => by rw [g2.2.2 n (by omega) (by omega), zup_nb _ _ _ (by omega)]
    have hk2 : zTk (zTnK K n) I' R' n P := ⟨tK1, tK2, tK3, tK4, by rw [hR'n]; exact tR1, by rw [hR'n]; exact tR2, by rw [hR'n]; exact tR3, by rw [hPt'.2.1, q2], q3⟩
    obtain ⟨I2, z1, z2, z3⟩ := X5_settle (F := F) (by omega) q1.1 (tNd_c q1.2.1) hk2 (by rw [g2.1 (n + 3) (by omega) (by omega) (by omega) (by omega) (by omega) (by omega) (by omega) (by omega)]; exact tI2)
    refine ⟨some n, zTnK K n, I2, R', J', 1, eC (some n) I2 ?_, ?_, fC I2 (fun x h1 h2 => z3 x h1 h2), fJ, Or.inr ⟨rfl, rfl, ⟨P, q1, z2, q4⟩, H', ?_⟩⟩
    · have g1' : f_X0_joinNodes F (zTnK K n) 10 (zTnI I n) (zup (zTnR (zup (zup R 21 2 (some t)) 21 3 (some u)) n) 21 4 (some n)) 21 (0 : Int32) (0 : Int32) (0 : Int32) = some (1, I', R') := g1
      rw [g1', zbd3_s, if_neg (by decide), hc'.2.1, zbd_s, zdr_s (t := 15) (by rw [tK1]), zbd_s, z1, zbd_s, zbd_s]
    · rw [eJ]
      have := y1 f
      rw [← hf] at this
      rw [this]
      obtain ⟨f, rfl⟩ : ∃ g, f = g + 1 := ⟨f - 1, by omega⟩
      show g_X7_joins_39 F zKm RM 89 _ J' (nI a) (nI b) (nI to) = _
      unfold g_X7_joins_39
      rw [y4, if_pos (by decide)]
    · exact zTb_keep2 hTb' (fun _ _ => rfl) (fun x x1 x2 => ⟨z3 x (by omega) (by omega), rfl⟩) (fun _ _ => rfl) (fun x hx => z3 x (by omega) (by omega)) ⟨rfl, rfl⟩ (fun _ _ _ => rfl) (by rw [z3 21 (by omega) (by omega)]) rfl
end ZJD
