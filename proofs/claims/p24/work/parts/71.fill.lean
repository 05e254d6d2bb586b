section ZFO
variable {F : Nat} {K : zK} {I : zI} {R : zR} {J : zI} {RM : zR} {t u o p j c m : Nat} {T U : Tm}
theorem fill_old (hF : 200 ≤ F) (hM : zMk K R m) (h0 : R m 0 = some t) (h1 : R m 1 = some u) (hRM : ∀ a k, 89 ≤ a → a < 121 → k < 39 → RM a k = zRt a k) (ho : o + 97 ≤ 5751) (hT : tWF T) (hU : tWF U) (hTc : zTc K I R t T) (hUc : zTc K I R u U) (hUm : zTm (J 90) o U) (hp : p < tn T) (hs : ts T p ≠ 0) (hjc : j + c ≤ tn U) (hj2 : ts T p = 2 → j < tn U) {a d : Nat} (f3 : I (m + 11) (tg T p) = nI (ts T p)) (f4 : I (m + 12) (tg T p) = nI a) (f5 : I (m + 13) (tg T p) = nI d) (f6 : J 112 (tg T p) = nI a) (f7 : J 113 (tg T p) = nI d) (hac : a + d ≤ tn U) (ha2 : ts T p = 2 → a < tn U) (w : Int32) :
    ∃ v : Int32, (v = 0 ∨ v = 1) ∧ f_X1_fill F K I R m (nI p) (nI j) (nI c) = some (v, I) ∧ f_X7_fills F zKm J RM 89 (nI o) (nI (tg T p)) (if ts T p = 2 then 1 else 0) (nI j) (nI c) w = some (v, J) := by
  obtain ⟨hm0, km, ⟨k51, k52, k53, k54, k55, k56⟩, r2, r3, r4, r5, r6, r7⟩ := hM
  have k15 : (K t).1 = 15 := by rw [hTc.1]
  have u15 : (K u).1 = 15 := by rw [hUc.1]
  have q0 : RM 89 0 = some 90 := hRM 89 0 (by decide) (by decide) (by decide)
  have q30 : RM 89 30 = some 112 := hRM 89 30 (by decide) (by decide) (by decide)
  have q31 : RM 89 31 = some 113 := hRM 89 31 (by decide) (by decide) (by decide)
  have k113 : zKm 112 = (1, 10) := rfl
  have k114 : zKm 113 = (1, 10) := rfl
  have hg : tg T p < 10 := by have := (hT.2.1 p hp).2.2.2.1 hs; omega
  have hs3 := (hT.2.1 p hp).1
  have hm := hU.1.2.1
  have e6 : f_X1_fill F K I R m (nI p) (nI j) (nI c) = if nI (ts T p) = (2 : Int32) then (zbd (f_X5_headOf F K I R u (nI a)) fun v50 => zbd (f_X5_headOf F K I R u (nI j)) fun v56 => if v50 = v56 then some ((1 : Int32), I) else some ((0 : Int32), I)) else if nI d = nI c then (zbd (f_X5_compareNodes F K I R u (nI a) (some u) (nI j) (nI c)) fun v38 => if v38 = (0 : Int32) then some ((1 : Int32), I) else some ((0 : Int32), I)) else some ((0 : Int32), I) := by
    unfold f_X1_fill
    rw [h0, zbd_s, zdr_s k15, zbd_s, X5_numberOf hTc hT hp, zbd_s, zo_0 (show (0 : Int32) ≤ nI (tg T p) ∧ nI (tg T p) ≤ 9 from ⟨nI_pos' (by omega), nI_le (b := 9) (by omega) (by omega)⟩), zbd_s, if_pos rfl, r4, zbd_s, zdr_s (t := 1) (by rw [k53]), zbd_s, zrd_s (by rw [k53]; exact hg) (by rw [k53]; decide), zbd_s, f3, if_neg (fun e => nI_pos (n := ts T p) (by omega) (by rw [e]; decide))]
    simp only [zbd_s, zdr_s (show (K (m + 11)).1 = 1 by rw [k53]), zdr_s (show (K (m + 12)).1 = 1 by rw [k54]), zdr_s (show (K (m + 13)).1 = 1 by rw [k55]), h1, r5, r6, zdr_s u15, zrd_s (K := K) (I := I) (a := m + 11) (j := tg T p) (by rw [k53]; exact hg) (by rw [k53]; decide), zrd_s (K := K) (I := I) (a := m + 12) (j := tg T p) (by rw [k54]; exact hg) (by rw [k54]; decide), zrd_s (K := K) (I := I) (a := m + 13) (j := tg T p) (by rw [k55]; exact hg) (by rw [k55]; decide), f3, f4, f5]
  have e7 : f_X7_fills F zKm J RM 89 (nI o) (nI (tg T p)) (if ts T p = 2 then 1 else 0) (nI j) (nI c) w = if (if ts T p = 2 then (1 : Int32) else 0) = 0 then (if nI d = nI c then (zbd (f_X7_isSame F zKm J RM 89 (nI o) (nI a) (nI o) (nI j) (nI c)) fun v19 => if v19 = (0 : Int32) then some ((0 : Int32), J) else some ((1 : Int32), J)) else some ((0 : Int32), J)) else (zbd (f_X7_sort F zKm J RM 89 (nI o) (nI j)) fun v22 => zbd (f_X7_sort F zKm J RM 89 (nI o) (nI a)) fun v29 => if v22 = v29 then (zbd (f_X7_number F zKm J RM 89 (nI o) (nI j)) fun v32 => zbd (f_X7_number F zKm J RM 89 (nI o) (nI a)) fun v39 => if v32 = v39 then some ((1 : Int32), J) else some ((0 : Int32), J)) else some ((0 : Int32), J)) := by
    unfold f_X7_fills
    rw [q31, zbd_s, zdr_s (t := 1) (by rw [k114]), zbd_s, zrd_s (by rw [k114]; exact hg) (by rw [k114]; decide), zbd_s, f7, if_pos (nI_pos' (by omega))]
    simp only [zbd_s, q30, zdr_s (show (zKm 112).1 = 1 by rw [k113]), zdr_s (show (zKm 113).1 = 1 by rw [k114]), zrd_s (K := zKm) (I := J) (a := 112) (j := tg T p) (by rw [k113]; exact hg) (by rw [k113]; decide), zrd_s (K := zKm) (I := J) (a := 113) (j := tg T p) (by rw [k114]; exact hg) (by rw [k114]; decide), f6, f7]
  rw [e6, e7]
  by_cases h2 : ts T p = 2
  · have hj := hj2 h2
    have ha := ha2 h2
    obtain ⟨n1, n2, n3, n4, -⟩ := hU.2.1 a ha
    obtain ⟨m1, m2, m3, m4, -⟩ := hU.2.1 j hj
    have t1 : tg U a ≤ 12 := by
      by_cases h0 : ts U a = 0
      · exact n3 h0
      · have := n4 h0; omega
    have t2 : tg U j ≤ 12 := by
      by_cases h0 : ts U j = 0
      · exact m3 h0
      · have := m4 h0; omega
    rw [if_pos (by rw [h2]; rfl), if_neg (by rw [if_pos h2]; decide), X5_headOf hUc hU ha, zbd_s, X5_headOf hUc hU hj, zbd_s, X7_sort q0 ho hUm hm hj, zbd_s, X7_sort q0 ho hUm hm ha, zbd_s, X7_number q0 ho hUm hm hj, zbd_s, X7_number q0 ho hUm hm ha, zbd_s]
    by_cases hh : ts U a = ts U j ∧ tg U a = tg U j
    · exact ⟨1, Or.inr rfl, by rw [if_pos (by rw [hh.1, hh.2])], by rw [if_pos (by rw [hh.1]), if_pos (by rw [hh.2])]⟩
    · refine ⟨0, Or.inl rfl, ?_, ?_⟩
      · rw [if_neg (fun e => hh (by have := nI_inj (by omega) (by omega) e; omega))]
      · by_cases hx : ts U j = ts U a
        · rw [if_pos (by rw [hx]), if_neg (fun e => hh ⟨hx.symm, (nI_inj (by omega) (by omega) e).symm⟩)]
        · rw [if_neg (fun e => hx (nI_inj (by omega) (by omega) e))]
  · rw [if_neg (show ¬ (nI (ts T p) = (2 : Int32)) from fun e => h2 (nI_inj (b := 2) (by omega) (by omega) e)), if_pos (show (if ts T p = 2 then (1 : Int32) else 0) = 0 by rw [if_neg h2])]
    by_cases hd : d = c
    · subst hd
      obtain ⟨r, e1, e2⟩ := X5_compareNodes (F := F) (by omega) hUc hUc hU hU hac hjc
      obtain ⟨s, g1, g2⟩ := X7_isSame (F := F) q0 hF ho ho hU hU hUm hUm hac hjc
      rw [if_pos rfl, if_pos rfl, e1, zbd_s, g1, zbd_s]
      rcases g2 with ⟨s1, s2⟩ | ⟨s1, s2⟩
      · exact ⟨1, Or.inr rfl, by rw [if_pos (e2.mpr s2)], by rw [s1, if_neg (by decide)]⟩
      · exact ⟨0, Or.inl rfl, by rw [if_neg (fun e => s2 (e2.mp e))], by rw [s1, if_pos rfl]⟩
    · have hne : ¬ nI d = nI c := fun e => hd (nI_inj (by omega) (by omega) e)
      exact ⟨0, Or.inl rfl, by rw [if_neg hne], by rw [if_neg hne]⟩
end ZFO
