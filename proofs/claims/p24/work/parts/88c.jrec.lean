/-! JOINING as a whole: the class's recursion against the reference's stack -/
def JN (F : Nat) (K : zK) (RM : zR) (p : Nat) (w : Nat × Nat) (to t a u b : Nat) (T U : Tm) (B : Nat) : Prop := ∀ (i j D : Nat) (I : zI) (R : zR) (J : zI) (L : List zNd) (H : Nat) (rest : List (Nat × Bool)) (s : Nat), i < tn T → j < tn U → tdp T i = D → tdp U j = D → 8 ≤ D + B → zJr K I R J p w to t a u b T U L H → stL L = (D, false) :: rest → J 89 29 = nI (s + 1) → s ≤ 9 * D → zEn J s (0, nI i, 0, nI j, 0) → JOut F K RM p w to t a u b T U I R J L (f_X0_joinNodes F K B I R 21 (nI i) (nI j) (nI D)) rest s
section ZJX
variable {F : Nat} {K : zK} {I : zI} {R : zR} {J : zI} {RM : zR} {p to t a u b : Nat} {w : Nat × Nat} {T U : Tm} {L : List zNd} {H : Nat}
theorem JOut_bind {cls1 : Option (Int32 × zI × zR)} {cls2 : zI → zR → Option (Int32 × zI × zR)} {rest1 rest2 : List (Nat × Bool)} {s1 s2 : Nat} (hs : s2 ≤ s1) (h1 : JOut F K RM p w to t a u b T U I R J L cls1 rest1 s1) (h2 : ∀ I' R' J' L' H', zJr K I' R' J' p w to t a u b T U L' H' → stL L' = rest1 → J' 89 29 = nI s1 → zFrS s1 J J' → JOut F K RM p w to t a u b T U I' R' J' L' (cls2 I' R') rest2 s2) :
    JOut F K RM p w to t a u b T U I R J L (zbd3 cls1 fun v I' R' => if v = (0 : Int32) then some ((0 : Int32), I', R') else cls2 I' R') rest2 s2 := by
  obtain ⟨v, I', R', J', k, a1, a2, a3, a4, a5, a6, a7⟩ := h1
  rcases a1 with rfl | rfl
  · exact ⟨0, I', R', J', k, Or.inl rfl, by rw [a2, zbd3_s, if_pos rfl], a3, a4, a5, a6, fun e => absurd e (by decide)⟩
  · obtain ⟨L', H', g1, g2, g3, g4, g5, g6⟩ := a7 rfl
    refine JOut_seq g1 g6 a3 a4 (fun c c1 c2 x hx => g5 c c1 c2 x (by omega)) (JOut_map (h2 I' R' J' L' H' g2 g3 g4 g5) (fun v I2 R2 _ hc => ?_))
    rw [a2, zbd3_s, if_neg (by decide)]
    exact hc
theorem JOut_end {cls : Option (Int32 × zI × zR)} {rest : List (Nat × Bool)} {s : Nat} (h : JOut F K RM p w to t a u b T U I R J L cls rest s) : JOut F K RM p w to t a u b T U I R J L (zbd3 cls fun v I' R' => if v = (0 : Int32) then some ((0 : Int32), I', R') else some ((1 : Int32), I', R')) rest s := by
  refine JOut_map h (fun v I' R' hv hc => ?_)
  rw [hc, zbd3_s]
  rcases hv with rfl | rfl
  · rw [if_pos rfl]
  · rw [if_neg (by decide)]
theorem JOut_end2 {cls : Option (Int32 × zI × zR)} {rest : List (Nat × Bool)} {s : Nat} (h : JOut F K RM p w to t a u b T U I R J L cls rest s) : JOut F K RM p w to t a u b T U I R J L (zbd3 cls fun v I' R' => if v = 0 ∨ v = 1 then some (v, I', R') else none) rest s := by
  refine JOut_map h (fun v I' R' hv hc => ?_)
  rw [hc, zbd3_s, if_pos hv]
/-- a row of arguments -/
theorem row_both {B : Nat} (hJN : JN F K RM p w to t a u b T U B) {h i0 j0 D : Nat} (hh : h ≤ 8) (hi : ∀ y, y < h → wk (tsp T) y i0 < tn T ∧ tdp T (wk (tsp T) y i0) = D) (hj : ∀ y, y < h → wk (tsp U) y j0 < tn U ∧ tdp U (wk (tsp U) y j0) = D) (hB : 8 ≤ D + B) : ∀ (d x f : Nat) (I : zI) (R : zR) (J : zI) (L : List zNd) (H : Nat) (rest : List (Nat × Bool)) (s : Nat), x + d = h → d < f → zJr K I R J p w to t a u b T U L H → stL L = List.replicate d (D, false) ++ rest → J 89 29 = nI (s + d) → s + h ≤ 9 * D + 1 → (∀ y, x ≤ y → y < h → zEn J (s + (h - 1 - y)) (0, nI (wk (tsp T) y i0), 0, nI (wk (tsp U) y j0), 0)) →
    JOut F K RM p w to t a u b T U I R J L (f_X0_joinRow_9 F K (f_X0_joinNodes F K B) 21 f I R (nI h) (nI D) (nI (wk (tsp T) x i0)) (nI (wk (tsp U) x j0)) (nI x)) rest s := by
  intro d
  induction d with
  | zero =>
    intro x f I R J L H rest s hx hf hr hst hJ hs hen
    obtain ⟨f, rfl⟩ : ∃ g, f = g + 1 := ⟨f - 1, by omega⟩
    have hl := hr.2.2.2.2.2.1.1
    refine ⟨1, I, R, J, 0, Or.inr rfl, ?_, zJfC_refl _ _ _, zJfJ_refl _ _, by omega, fun e => absurd e (by decide), fun _ => ⟨L, H, fun f => rfl, hr, by rw [hst]; rfl, hJ, fun _ _ _ _ _ => rfl, rfl⟩⟩
    show g_X0_joinRow_9 F K (f_X0_joinNodes F K B) 21 _ I R (nI h) (nI D) (nI (wk (tsp T) x i0)) (nI (wk (tsp U) x j0)) (nI x) = _
    unfold g_X0_joinRow_9
    rw [if_pos (nI_le (by omega) (by omega))]
  | succ d ih =>
    intro x f I R J L H rest s hx hf hr hst hJ hs hen
    obtain ⟨f, rfl⟩ : ∃ g, f = g + 1 := ⟨f - 1, by omega⟩
    obtain ⟨c1, c2⟩ := hi x (by omega)
    obtain ⟨d1, d2⟩ := hj x (by omega)
    have e1 := hen x (Nat.le_refl _) (by omega)
    rw [show s + (h - 1 - x) = s + d by omega] at e1
    have h1 := hJN _ _ D I R J L H (List.replicate d (D, false) ++ rest) (s + d) c1 d1 c2 d2 hB hr (by rw [hst, List.replicate_succ, List.cons_append]) hJ (by omega) e1
    have h2 := JOut_bind (F := F) (RM := RM) (cls2 := fun I' R' => f_X0_joinRow_9 F K (f_X0_joinNodes F K B) 21 f I' R' (nI h) (nI D) (nI (wk (tsp T) (x + 1) i0)) (nI (wk (tsp U) (x + 1) j0)) (nI (x + 1))) (show s ≤ s + d by omega) h1 (fun I' R' J' L' H' g1 g2 g3 g4 => ih (x + 1) f I' R' J' L' H' rest s (by omega) (by omega) g1 g2 g3 hs (fun y y1 y2 => zEn_frS (hen y (by omega) y2) g4 (by omega)))
    obtain ⟨v, I', R', J', k, a1, a2, a3, a4, a5, a6, a7⟩ := h1
    have hgo : f_X0_joinRow_9 F K (f_X0_joinNodes F K B) 21 (f + 1) I R (nI h) (nI D) (nI (wk (tsp T) x i0)) (nI (wk (tsp U) x j0)) (nI x) = (zbd3 (f_X0_joinNodes F K B I R 21 (nI (wk (tsp T) x i0)) (nI (wk (tsp U) x j0)) (nI D)) fun v I' R' => if v = (0 : Int32) then some ((0 : Int32), I', R') else f_X0_joinRow_9 F K (f_X0_joinNodes F K B) 21 f I' R' (nI h) (nI D) (nI (wk (tsp T) (x + 1) i0)) (nI (wk (tsp U) (x + 1) j0)) (nI (x + 1))) := by
      show g_X0_joinRow_9 F K (f_X0_joinNodes F K B) 21 _ I R (nI h) (nI D) (nI (wk (tsp T) x i0)) (nI (wk (tsp U) x j0)) (nI x) = _
      unfold g_X0_joinRow_9
      rw [if_neg (nI_ge (by omega) (by omega)), a2, zbd3_s, zbd3_s]
      rcases a1 with rfl | rfl
      · rw [if_pos rfl, if_pos rfl]
      · obtain ⟨L', H', g1, g2, -⟩ := a7 rfl
        obtain ⟨-, ⟨r2, r3⟩, hT, hU, -⟩ := g2
        rw [if_neg (by decide), if_neg (by decide), r2, zbd_s, zdr_s (t := 15) (by rw [hT.2.2.2.2.2.1.1]), zbd_s, X5_spanOf hT.2.2.2.2.2.1 hT.2.2.2.2.1 c1, zbd_s, zbd_s, r3, zbd_s, zdr_s (t := 15) (by rw [hU.2.2.2.2.2.1.1]), zbd_s, X5_spanOf hU.2.2.2.2.2.1 hU.2.2.2.2.1 d1, zbd_s, zbd_s, nI_add, nI_add, ← wk_succ, ← wk_succ, nI_1]
    rw [hgo]
    exact h2
theorem one_rep (m d : Nat) : oneS (List.replicate m (d, false)) := fun k l x y h1 _ => by
  have := List.mem_of_getElem? h1
  have := List.eq_of_mem_replicate this
  cases this
theorem one_gap (P Q d : Nat) : oneS (List.replicate P (d, false) ++ (d, true) :: List.replicate Q (d, false)) := by
  have key : ∀ (k x : Nat), (List.replicate P (d, false) ++ (d, true) :: List.replicate Q (d, false))[k]? = some (x, true) → k = P := fun k x h => by
    rcases Nat.lt_trichotomy k P with h1 | h1 | h1
    · rw [List.getElem?_append_left (by rw [List.length_replicate]; exact h1)] at h
      have := List.eq_of_mem_replicate (List.mem_of_getElem? h)
      cases this
    · exact h1
    · rw [List.getElem?_append_right (by rw [List.length_replicate]; omega), List.length_replicate] at h
      obtain ⟨z, hz⟩ : ∃ z, k - P = z + 1 := ⟨k - P - 1, by omega⟩
      rw [hz, List.getElem?_cons_succ] at h
      have := List.eq_of_mem_replicate (List.mem_of_getElem? h)
      cases this
  exact fun k l x y h1 h2 => by rw [key k x h1, key l y h2]
theorem push_even (hRM : zRM RM) (hF : 100 ≤ F) (hT : tWF T) (hU : tWF U) {i j m s : Nat} (hi : i < tn T) (hj : j < tn U) (hm : m = tr T i) (hm2 : m = tr U j) (hs : J 89 29 = nI s) (hs2 : s + m ≤ 160) (h93 : ∀ y, y < tn T → J 92 y = nI (tsp T y)) (h94 : ∀ y, y < tn U → J 93 y = nI (tsp U y)) : ∃ J', f_X7_pushesEven F zKm J RM 89 (nI i) (nI j) (nI m) = some J' ∧ zFr s J J' ∧ J' 89 29 = nI (s + m) ∧ ∀ y, y < m → zEn J' (s + (m - 1 - y)) (0, nI (tc T i y), 0, nI (tc U j y), 0) := by
  have hr := (hT.2.1 i hi).2.1
  obtain ⟨J', ⟨q1, -⟩, q3, q4, q5⟩ := even5 (F := F) hRM hF hT hU hi hj m F s J hs hs2 (by omega) (by omega) (by omega) h93 h94
  refine ⟨J', ?_, q3, q4, q5⟩
  unfold f_X7_pushesEven
  rw [zbd_s, Int32.sub_eq_add_neg]
  exact q1
/-- the reference's next node, where a gap is on the stack -/
theorem gap_next (hRM : zRM RM) {s x c y e : Nat} (hs : J 89 29 = nI s) (hs2 : s < 160) (hen : zEn J s (1, nI x, nI c, nI y, nI e)) : f_X7_joinsNext F zKm J RM 89 (nI a) (nI b) (nI to) = (zbd2 (f_X7_holeFor F zKm J RM 89 (nI 3) (nI a) (nI x) (nI c) (nI b) (nI y) (nI e)) fun v11 I12 => zbd (zrd zKm I12 90 (nI to)) fun v18 => zbd (f_X7_writes F zKm I12 RM 89 (nI to) v18 (nI 3) v11 (nI 0)) fun I19 => if v11 = (-9 : Int32) then some ((0 : Int32), I19) else some ((1 : Int32), I19)) := by
  have r0 : RM 89 0 = some 90 := hRM 89 0 (by decide) (by decide) (by decide)
  have r24 : RM 89 24 = some 107 := hRM 89 24 (by decide) (by decide) (by decide)
  have r25 : RM 89 25 = some 108 := hRM 89 25 (by decide) (by decide) (by decide)
  have r26 : RM 89 26 = some 109 := hRM 89 26 (by decide) (by decide) (by decide)
  have r27 : RM 89 27 = some 110 := hRM 89 27 (by decide) (by decide) (by decide)
  have r28 : RM 89 28 = some 111 := hRM 89 28 (by decide) (by decide) (by decide)
  obtain ⟨g1, g2, g3, g4, g5⟩ := hen
  simp only at g1 g2 g3 g4 g5
  have zr : ∀ z, z = 107 ∨ z = 108 ∨ z = 109 ∨ z = 110 ∨ z = 111 → zrd zKm J z (nI s) = some (J z s) := fun z hz => by
    rcases hz with rfl | rfl | rfl | rfl | rfl <;> exact zrd_s hs2 (by decide)
  unfold f_X7_joinsNext
  rw [r25, zbd_s, show zdr zKm (some 108) 1 = some 108 from rfl, zbd_s, hs, zr 108 (by omega), zbd_s, g2, r26, zbd_s, show zdr zKm (some 109) 1 = some 109 from rfl, zbd_s, zr 109 (by omega), zbd_s, g4, r24, zbd_s, show zdr zKm (some 107) 2 = some 107 from rfl, zbd_s, zr 107 (by omega), zbd_s, g1, if_neg (by decide), r27, zbd_s, show zdr zKm (some 110) 1 = some 110 from rfl, zbd_s, zr 110 (by omega), zbd_s, g3, r28, zbd_s, show zdr zKm (some 111) 1 = some 111 from rfl, zbd_s, zr 111 (by omega), zbd_s, g5]
  simp only [r0, zbd_s, zd91]
  rfl
end ZJX
