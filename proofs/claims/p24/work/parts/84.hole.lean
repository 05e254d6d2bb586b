/-! JOINING: appending a node, the table of holes -/
section ZAP
variable {F : Nat} {K : zK} {I : zI} {R : zR} {p c hd r : Nat}
theorem nI_shl4or : ∀ a, a < 64 → ∀ b, b < 16 → (nI a <<< ((4 : Int32) &&& 31)) ||| nI b = nI (a * 16 + b) := by decide +kernel
theorem X5_append_ok (k1 : K (p + 1) = (1, 32)) (h0 : R p 0 = some (p + 1)) (hc : I p 3 = nI c) (hc2 : c < 32) (hh : hd < 64) (hr : r ≤ 8) : f_X5_append F K I R p (nI hd) (nI r) = some (1, zup (zup I (p + 1) c (nI (hd * 16 + r))) p 3 (nI (c + 1))) := by
  unfold f_X5_append
  rw [if_neg (nI_pos (by omega)), h0, zbd_s, zdr_s (t := 1) (by rw [k1]), zbd_s, hc, show zln K (p + 1) = nI 32 from by unfold zln; rw [k1]; rfl, nl1, nI_sub (by omega), zo_0 (show (0 : Int32) ≤ nI c ∧ nI c ≤ nI (32 - 1) from ⟨nI_pos' (by omega), nI_le (by omega) (by omega)⟩), zbd_s, if_pos rfl, zo_0 (show (0 : Int32) ≤ nI r ∧ nI r ≤ 8 from ⟨nI_pos' (by omega), nI_le (b := 8) (by omega) (by omega)⟩), zbd_s, if_pos rfl, zbd_s, zdr_s (t := 1) (by rw [k1]), zbd_s, nI_shl4or _ hh _ (by omega), zwr_s (by rw [k1]; exact hc2) (by rw [k1]; decide), zbd_s, zup_nb _ _ _ (by omega), hc, nI_add, zbd_s]
theorem X5_append_full (k1 : K (p + 1) = (1, 32)) (h0 : R p 0 = some (p + 1)) (hc : I p 3 = nI 32) (hh : hd < 64) (x : Int32) : f_X5_append F K I R p (nI hd) x = some (0, I) := by
  unfold f_X5_append
  rw [if_neg (nI_pos (by omega)), h0, zbd_s, zdr_s (t := 1) (by rw [k1]), zbd_s, hc, show zln K (p + 1) = nI 32 from by unfold zln; rw [k1]; rfl, nl1, nI_sub (by omega), zo_1 (by decide), zbd_s, if_neg (by decide)]
theorem X7_writes {J : zI} {RM : zR} (hRM : zRM RM) {to : Nat} (ht : to + 97 ≤ 5751) (hc : c < 32) (a b d : Int32) : f_X7_writes F zKm J RM 89 (nI to) (nI c) a b d = some (zup (zup (zup J 90 (to + 1 + 3 * c) a) 90 (to + 2 + 3 * c) b) 90 (to + 3 + 3 * c) d) := by
  have r0 : RM 89 0 = some 90 := hRM 89 0 (by decide) (by decide) (by decide)
  unfold f_X7_writes
  rw [r0, zbd_s, zd91, zbd_s, nl1, nl3, nl2, nI_mul, nI_add, nI_add, nI_add, nI_add, nI_add, nI_add, zwr_s (by rw [zKm91]; show to + 1 + 3 * c < 5751; omega) (by decide), zbd_s, zbd_s, zd91, zbd_s, zwr_s (by rw [zKm91]; show to + 2 + 3 * c < 5751; omega) (by decide), zbd_s, zbd_s, zd91, zbd_s, zwr_s (by rw [zKm91]; show to + 3 + 3 * c < 5751; omega) (by decide), zbd_s]
end ZAP
/-- the Joiner's rows -/
def zJk (K : zK) (R : zR) : Prop := K 21 = (10, 0) ∧ (K 34 = (1, 10) ∧ K 35 = (4, 10) ∧ K 36 = (1, 10) ∧ K 37 = (1, 10) ∧ K 38 = (4, 10) ∧ K 39 = (1, 10) ∧ K 40 = (1, 10)) ∧ R 21 6 = some 34 ∧ R 21 7 = some 35 ∧ R 21 8 = some 36 ∧ R 21 9 = some 37 ∧ R 21 10 = some 38 ∧ R 21 11 = some 39 ∧ R 21 12 = some 40
/-- a term that the table may speak of: the class's object at t, the reference's row at o; new things lie from p on, and in the row to -/
def zTr (K : zK) (I : zI) (R : zR) (J : zI) (p : Nat) (w : Nat × Nat) (to t o : Nat) (T : Tm) : Prop := 92 ≤ t ∧ t + 4 ≤ p ∧ o + 97 ≤ 5751 ∧ ((o + 97 ≤ w.1 ∨ w.2 ≤ o) ∧ w.1 ≤ to ∧ to + 97 ≤ w.2) ∧ tWF T ∧ zTc K I R t T ∧ zTm (J 90) o T
/-- an entry of the table of holes, on both sides -/
def zEnt (K : zK) (I : zI) (R : zR) (J : zI) (p : Nat) (w : Nat × Nat) (to h : Nat) : Prop := ∃ (s i c j e t1 o1 t2 o2 : Nat) (T1 T2 : Tm), (s = 1 ∨ s = 2 ∨ s = 3) ∧ (I 34 h = nI s ∧ J 100 h = nI s) ∧ (R 35 h = some t1 ∧ J 101 h = nI o1) ∧ (I 36 h = nI i ∧ J 102 h = nI i) ∧ (I 37 h = nI c ∧ J 103 h = nI c) ∧ (R 38 h = some t2 ∧ J 104 h = nI o2) ∧ (I 39 h = nI j ∧ J 105 h = nI j) ∧ (I 40 h = nI e ∧ J 106 h = nI e) ∧ zTr K I R J p w to t1 o1 T1 ∧ zTr K I R J p w to t2 o2 T2 ∧ i + c ≤ tn T1 ∧ j + e ≤ tn T2 ∧ (s = 2 → (i < tn T1 ∧ ts T1 i = 0) ∧ j < tn T2 ∧ ts T2 j = 0)
def zTb (K : zK) (I : zI) (R : zR) (J : zI) (p : Nat) (w : Nat × Nat) (to H : Nat) : Prop := H ≤ 10 ∧ I 21 5 = nI H ∧ J 89 16 = nI H ∧ ∀ h, h < H → zEnt K I R J p w to h
section ZHO
variable {F : Nat} {K : zK} {I : zI} {R : zR} {J : zI} {RM : zR} {p to t u a b s i c j e : Nat} {w : Nat × Nat} {T U : Tm}
/-- whether an entry stands for a pair -/
theorem pair_both (hF : 200 ≤ F) (hK : zJk K R) (hRM : zRM RM) (h2 : R 21 2 = some t) (h3 : R 21 3 = some u) (hT : zTr K I R J p w to t a T) (hU : zTr K I R J p w to u b U) (hs : s = 1 ∨ s = 2 ∨ s = 3) (hi : i + c ≤ tn T) (hj : j + e ≤ tn U) (h2s : s = 2 → (i < tn T ∧ ts T i = 0) ∧ j < tn U ∧ ts U j = 0) {h : Nat} (hh : h < 10) (hE : zEnt K I R J p w to h) :
    ∃ v : Int32, (v = 0 ∨ v = 1) ∧ f_X0_standsFor F K I R 21 (nI h) (nI s) (nI i) (nI c) (nI j) (nI e) = some v ∧ f_X7_isPair F zKm J RM 89 (nI h) (nI s) (nI a) (nI i) (nI c) (nI b) (nI j) (nI e) = some v := by
  obtain ⟨k22, ⟨k35, k36, k37, k38, k39, k40, k41⟩, r6, r7, r8, r9, r10, r11, r12⟩ := hK
  have q0 : RM 89 0 = some 90 := hRM 89 0 (by decide) (by decide) (by decide)
  have q17 : RM 89 17 = some 100 := hRM 89 17 (by decide) (by decide) (by decide)
  have q18 : RM 89 18 = some 101 := hRM 89 18 (by decide) (by decide) (by decide)
  have q19 : RM 89 19 = some 102 := hRM 89 19 (by decide) (by decide) (by decide)
  have q20 : RM 89 20 = some 103 := hRM 89 20 (by decide) (by decide) (by decide)
  have q21 : RM 89 21 = some 104 := hRM 89 21 (by decide) (by decide) (by decide)
  have q22 : RM 89 22 = some 105 := hRM 89 22 (by decide) (by decide) (by decide)
  have q23 : RM 89 23 = some 106 := hRM 89 23 (by decide) (by decide) (by decide)
  obtain ⟨hT1, hT2, hT3, hT4, hT5, hT6, hT7⟩ := hT
  obtain ⟨hU1, hU2, hU3, hU4, hU5, hU6, hU7⟩ := hU
  obtain ⟨s', i', c', j', e', t1, o1, t2, o2, T1, T2, hs', ⟨f1, g1⟩, ⟨f2, g2⟩, ⟨f3, g3⟩, ⟨f4, g4⟩, ⟨f5, g5⟩, ⟨f6, g6⟩, ⟨f7, g7⟩, ⟨m1, m2, m3, m4, m5, m6, m7⟩, ⟨n1, n2, n3, n4, n5, n6, n7⟩, hi', hj', h2s'⟩ := hE
  have tn1 := hT5.1.2.1
  have tn2 := hU5.1.2.1
  have tn3 := m5.1.2.1
  have tn4 := n5.1.2.1
  have t15 : (K t).1 = 15 := by rw [hT6.1]
  have u15 : (K u).1 = 15 := by rw [hU6.1]
  have m15 : (K t1).1 = 15 := by rw [m6.1]
  have n15 : (K t2).1 = 15 := by rw [n6.1]
  have eC : f_X0_standsFor F K I R 21 (nI h) (nI s) (nI i) (nI c) (nI j) (nI e) = if nI s' = nI s then (if nI c' = nI c then (if nI e' = nI e then (if nI s = (2 : Int32) then (zbd (f_X5_headOf F K I R t1 (nI i')) fun v60 => zbd (f_X5_headOf F K I R t (nI i)) fun v66 => if v60 = v66 then (zbd (f_X5_headOf F K I R t2 (nI j')) fun v75 => zbd (f_X5_headOf F K I R u (nI j)) fun v81 => if v75 = v81 then some (1 : Int32) else some (0 : Int32)) else some (0 : Int32)) else (zbd (f_X5_compareNodes F K I R t1 (nI i') (some t) (nI i) (nI c)) fun v41 => if v41 = (0 : Int32) then (zbd (f_X5_compareNodes F K I R t2 (nI j') (some u) (nI j) (nI e)) fun v51 => if v51 = (0 : Int32) then some (1 : Int32) else some (0 : Int32)) else some (0 : Int32))) else some (0 : Int32)) else some (0 : Int32)) else some (0 : Int32) := by
    unfold f_X0_standsFor
    rw [r7, zbd_s, zdr_s (t := 4) (by rw [k36]), zbd_s, zrdR_s (by rw [k36]; exact hh) (by rw [k36]; decide), zbd_s, f2, r10, zbd_s, zdr_s (t := 4) (by rw [k39]), zbd_s, zrdR_s (by rw [k39]; exact hh) (by rw [k39]; decide), zbd_s, f5, zcs_s, zcs_s]
    simp only [r6, r8, r9, r11, r12, h2, h3, zbd_s, zdr_s t15, zdr_s u15, if_pos m15, if_pos n15, zdr_s (show (K 34).1 = 1 by rw [k35]), zdr_s (show (K 36).1 = 1 by rw [k37]), zdr_s (show (K 37).1 = 1 by rw [k38]), zdr_s (show (K 39).1 = 1 by rw [k40]), zdr_s (show (K 40).1 = 1 by rw [k41]), zrd_s (K := K) (I := I) (a := 34) (j := h) (by rw [k35]; exact hh) (by rw [k35]; decide), zrd_s (K := K) (I := I) (a := 36) (j := h) (by rw [k37]; exact hh) (by rw [k37]; decide), zrd_s (K := K) (I := I) (a := 37) (j := h) (by rw [k38]; exact hh) (by rw [k38]; decide), zrd_s (K := K) (I := I) (a := 39) (j := h) (by rw [k40]; exact hh) (by rw [k40]; decide), zrd_s (K := K) (I := I) (a := 40) (j := h) (by rw [k41]; exact hh) (by rw [k41]; decide), f1, f3, f4, f6, f7]
  have z : ∀ x : Nat, 100 ≤ x → x ≤ 106 → zKm x = (1, 10) := fun x h1 h2 => by
    have : x = 100 ∨ x = 101 ∨ x = 102 ∨ x = 103 ∨ x = 104 ∨ x = 105 ∨ x = 106 := by omega
    rcases this with rfl | rfl | rfl | rfl | rfl | rfl | rfl <;> rfl
  have zr : ∀ x : Nat, 100 ≤ x → x ≤ 106 → zrd zKm J x (nI h) = some (J x h) := fun x h1 h2 => zrd_s (by rw [z x h1 h2]; exact hh) (by rw [z x h1 h2]; decide)
  have zd : ∀ x : Nat, 100 ≤ x → x ≤ 106 → zdr zKm (some x) 1 = some x := fun x h1 h2 => zdr_s (by rw [z x h1 h2])
  have eJ : f_X7_isPair F zKm J RM 89 (nI h) (nI s) (nI a) (nI i) (nI c) (nI b) (nI j) (nI e) = if nI s' = nI s then (if nI c' = nI c then (if nI e' = nI e then (if nI s = (2 : Int32) then (zbd (f_X7_number F zKm J RM 89 (nI o1) (nI i')) fun v56 => zbd (f_X7_number F zKm J RM 89 (nI a) (nI i)) fun v58 => if v56 = v58 then (zbd (f_X7_number F zKm J RM 89 (nI o2) (nI j')) fun v71 => zbd (f_X7_number F zKm J RM 89 (nI b) (nI j)) fun v73 => if v71 = v73 then some (1 : Int32) else some (0 : Int32)) else some (0 : Int32)) else (zbd (f_X7_isSame F zKm J RM 89 (nI o1) (nI i') (nI a) (nI i) (nI c)) fun v30 => if v30 = (0 : Int32) then some (0 : Int32) else (zbd (f_X7_isSame F zKm J RM 89 (nI o2) (nI j') (nI b) (nI j) (nI e)) fun v43 => if v43 = (0 : Int32) then some (0 : Int32) else some (1 : Int32)))) else some (0 : Int32)) else some (0 : Int32)) else some (0 : Int32) := by
    unfold f_X7_isPair
    simp only [q17, q18, q19, q20, q21, q22, q23, zbd_s, zd 100 (by decide) (by decide), zd 101 (by decide) (by decide), zd 102 (by decide) (by decide), zd 103 (by decide) (by decide), zd 104 (by decide) (by decide), zd 105 (by decide) (by decide), zd 106 (by decide) (by decide), zr 100 (by decide) (by decide), zr 101 (by decide) (by decide), zr 102 (by decide) (by decide), zr 103 (by decide) (by decide), zr 104 (by decide) (by decide), zr 105 (by decide) (by decide), zr 106 (by decide) (by decide), g1, g2, g3, g4, g5, g6, g7]
  rw [eC, eJ]
  by_cases hss : s' = s
  · subst hss
    rw [if_pos rfl, if_pos rfl]
    by_cases hcc : c' = c
    · subst hcc
      rw [if_pos rfl, if_pos rfl]
      by_cases hee : e' = e
      · subst hee
        rw [if_pos rfl, if_pos rfl]
        by_cases hs2 : s' = 2
        · obtain ⟨⟨x1, x2⟩, x3, x4⟩ := h2s hs2
          obtain ⟨⟨y1, y2⟩, y3, y4⟩ := h2s' hs2
          have b1 := (hT5.2.1 i x1).2.2.1 x2
          have b2 := (hU5.2.1 j x3).2.2.1 x4
          have b3 := (m5.2.1 i' y1).2.2.1 y2
          have b4 := (n5.2.1 j' y3).2.2.1 y4
          rw [if_pos (by rw [hs2]; rfl), if_pos (by rw [hs2]; rfl), X5_headOf m6 m5 y1, zbd_s, X5_headOf hT6 hT5 x1, zbd_s, X5_headOf n6 n5 y3, zbd_s, X5_headOf hU6 hU5 x3, zbd_s, X7_number q0 m3 m7 tn3 y1, zbd_s, X7_number q0 hT3 hT7 tn1 x1, zbd_s, X7_number q0 n3 n7 tn4 y3, zbd_s, X7_number q0 hU3 hU7 tn2 x3, zbd_s, x2, x4, y2, y4]
          by_cases z1 : tg T1 i' = tg T i
          · rw [if_pos (show nI (0 * 16 + tg T1 i') = nI (0 * 16 + tg T i) by rw [z1]), if_pos (show nI (tg T1 i') = nI (tg T i) by rw [z1])]
            by_cases z2 : tg T2 j' = tg U j
            · exact ⟨1, Or.inr rfl, by rw [if_pos (by rw [z2])], by rw [if_pos (by rw [z2])]⟩
            · exact ⟨0, Or.inl rfl, by rw [if_neg (fun e => z2 (by have := nI_inj (by omega) (by omega) e; omega))], by rw [if_neg (fun e => z2 (nI_inj (by omega) (by omega) e))]⟩
          · exact ⟨0, Or.inl rfl, by rw [if_neg (fun e => z1 (by have := nI_inj (by omega) (by omega) e; omega))], by rw [if_neg (fun e => z1 (nI_inj (by omega) (by omega) e))]⟩
        · have hn2 : ¬ nI s' = (2 : Int32) := fun e => hs2 ((ni2 (by omega)).mp e)
          rw [if_neg hn2, if_neg hn2]
          obtain ⟨r1, w1, w2⟩ := X5_compareNodes (F := F) (by omega) m6 hT6 m5 hT5 hi' hi
          obtain ⟨r2, w3, w4⟩ := X5_compareNodes (F := F) (by omega) n6 hU6 n5 hU5 hj' hj
          obtain ⟨r3, w5, w6⟩ := X7_isSame (F := F) q0 hF m3 hT3 m5 hT5 m7 hT7 hi' hi
          obtain ⟨r4, w7, w8⟩ := X7_isSame (F := F) q0 hF n3 hU3 n5 hU5 n7 hU7 hj' hj
          rw [w1, zbd_s, w3, zbd_s, w5, zbd_s, w7, zbd_s]
          rcases w6 with ⟨v1, v2⟩ | ⟨v1, v2⟩
          · rw [if_pos (w2.mpr v2), v1, if_neg (show ¬ ((1 : Int32) = 0) by decide)]
            rcases w8 with ⟨v3, v4⟩ | ⟨v3, v4⟩
            · exact ⟨1, Or.inr rfl, by rw [if_pos (w4.mpr v4)], by rw [v3, if_neg (by decide)]⟩
            · exact ⟨0, Or.inl rfl, by rw [if_neg (fun e => v4 (w4.mp e))], by rw [v3, if_pos rfl]⟩
          · exact ⟨0, Or.inl rfl, by rw [if_neg (fun e => v2 (w2.mp e))], by rw [v1, if_pos rfl]⟩
      · have hn : ¬ nI e' = nI e := fun x => hee (nI_inj (by omega) (by omega) x)
        exact ⟨0, Or.inl rfl, if_neg hn, if_neg hn⟩
    · have hn : ¬ nI c' = nI c := fun x => hcc (nI_inj (by omega) (by omega) x)
      exact ⟨0, Or.inl rfl, if_neg hn, if_neg hn⟩
  · have hn : ¬ nI s' = nI s := fun x => hss (nI_inj (by omega) (by omega) x)
    exact ⟨0, Or.inl rfl, if_neg hn, if_neg hn⟩
end ZHO
