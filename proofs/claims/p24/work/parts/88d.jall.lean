/-! JOINING as a whole: every pair of nodes -/
section ZJY
variable {F : Nat} {K : zK} {I : zI} {R : zR} {J : zI} {RM : zR} {p to t a u b : Nat} {w : Nat × Nat} {T U : Tm} {L : List zNd} {H : Nat}
/-- a node with a row of arguments behind it (rules 1 and 3), when it has been appended -/
theorem even_out (hF : 200 ≤ F) (hRM : zRM RM) {B : Nat} (hJN : JN F K RM p w to t a u b T U B) {i j D s : Nat} (hi : i < tn T) (hj : j < tn U) (hDT : tdp T i = D) (hDU : tdp U j = D) (hB : 8 ≤ D + (B + 1)) {sy g : Nat} {rest : List (Nat × Bool)} (hr : zJr K I R J p w to t a u b T U L H) (hn : L.length < 32) (hst : stL L = (D, false) :: rest) (hJ : J 89 29 = nI s) (hs : s ≤ 9 * D) (hm : tr T i = tr U j) (hsy : sy = 0 ∨ sy = 2) (hg : (sy = 0 → g ≤ 12) ∧ (sy ≠ 0 → g ≤ 9 ∧ 1 ≤ tr T i ∧ g < H ∧ I 34 g = nI sy)) {J0 : zI} (fJ0 : zJfJ to J0 J) (fS0 : zFrS s J0 J) {k : Nat}
    (hk : ∀ J1, f_X7_pushesEven F zKm (zWr J to L.length sy g (tr T i)) RM 89 (nI i) (nI j) (nI (tr T i)) = some J1 → J1 90 to = nI L.length → ∀ f, f_X7_joins_39 F zKm RM 89 (f + k) J0 (nI a) (nI b) (nI to) = f_X7_joins_39 F zKm RM 89 f (zup J1 90 to (nI (L.length + 1))) (nI a) (nI b) (nI to)) (hk1 : k = 1) :
    JOut F K RM p w to t a u b T U I R J0 L (zbd3 (f_X0_joinRow F K (f_X0_joinNodes F K B) (zAp I p L.length sy g (tr T i)) R 21 (nI (i + 1)) (nI (j + 1)) (nI (tr T i)) (nI (D + 1))) fun v I' R' => if v = (0 : Int32) then some ((0 : Int32), I', R') else some ((1 : Int32), I', R')) rest s := by
  have hto := hr.1.2.2.2.2.2.1
  obtain ⟨-, -, hT, hU, -, hPt, -, h93, h94⟩ := id hr
  have hTw := hT.2.2.2.2.1
  have hUw := hU.2.2.2.2.1
  have hr8 := (hTw.2.1 i hi).2.1
  have hD7 : D ≤ 7 := by rw [← hDT]; exact (hTw.2.1 i hi).2.2.2.2.2.2
  obtain ⟨J1, q1, q2, q3, q4⟩ := push_even (F := F) (J := zWr J to L.length sy g (tr T i)) hRM (by omega) hTw hUw hi hj rfl hm (by rw [zWr_ne (by decide)]; exact hJ) (by omega) (fun y hy => by rw [zWr_ne (by decide)]; exact h93 y hy) (fun y hy => by rw [zWr_ne (by decide)]; exact h94 y hy)
  have hlen : (List.replicate (tr T i) (D + 1, false)).length = tr T i := List.length_replicate
  have hok : okV D false (sy, g, List.replicate (tr T i) (D + 1, false)) := ⟨⟨fun e => (by have : sy = 3 := e; omega), fun e => (by cases e)⟩, fun x hx => (by rw [List.eq_of_mem_replicate hx]), one_rep _ _⟩
  obtain ⟨c1, c2, c3⟩ := rel_append (sk := s) (v := (sy, g, List.replicate (tr T i) (D + 1, false))) (J1 := J1) hr hn hst hok hD7 ⟨by show sy ≤ 3; omega, by show (List.replicate (tr T i) (D + 1, false)).length ≤ 8; omega, fun e => hg.1 e, fun e => (hg.2 e).1, fun e => by have : sy = 1 ∨ sy = 3 := e; omega, fun e => by show 1 ≤ (List.replicate (tr T i) (D + 1, false)).length; have : sy = 2 := e; have := (hg.2 (by omega)).2.1; omega⟩ (fun e => (hg.2 e).2.2) (by show zFr s (zWr J to L.length sy g (List.replicate (tr T i) (D + 1, false)).length) J1; rw [hlen]; exact q2)
  simp only [hlen] at c1 c2 c3
  have e91 : J1 90 to = nI L.length := by rw [q2.1 90 (by decide) (by decide), zWr_to hto, hPt.2.2.1]
  have hrow := row_both (F := F) (RM := RM) hJN (h := tr T i) (i0 := i + 1) (j0 := j + 1) (D := D + 1) hr8 (fun y hy => ⟨(tc_lt hTw.1 hi hy).2.2, by rw [← hDT]; exact hTw.1.2.2.2.2.2.2 i hi y hy⟩) (fun y hy => ⟨(tc_lt hUw.1 hj (by omega)).2.2, by rw [← hDU]; exact hUw.1.2.2.2.2.2.2 j hj y (by omega)⟩) (by omega) (tr T i) 0 F _ R _ _ H rest s (Nat.zero_add _) (by omega) c1 (by rw [stL_snoc, hst]; rfl) (by rw [zup_nb _ _ _ (by decide)]; exact q3) (by omega) (fun y _ hy => by
    obtain ⟨e1, e2, e3, e4, e5⟩ := q4 y hy
    exact ⟨by rw [zup_nb _ _ _ (by decide)]; exact e1, by rw [zup_nb _ _ _ (by decide)]; exact e2, by rw [zup_nb _ _ _ (by decide)]; exact e3, by rw [zup_nb _ _ _ (by decide)]; exact e4, by rw [zup_nb _ _ _ (by decide)]; exact e5⟩)
  refine JOut_seq (k1 := k) (hk J1 q1 e91) (by rw [List.length_append, hk1]; rfl) c2 (zJfJ_trans fJ0 c3) (fun c d1 d2 x hx => ?_) (JOut_end hrow)
  rw [zup_nb _ _ _ (by omega), q2.2.2 c d1 d2 x hx, zWr_ne (by omega), fS0 c d1 d2 x hx]
set_option maxHeartbeats 400000 in
theorem join_node (hF : 200 ≤ F) (hRM : zRM RM) {B : Nat} (hJN : JN F K RM p w to t a u b T U B) : JN F K RM p w to t a u b T U (B + 1) := by
  intro i j D I R J L H rest s hi hj hDT hDU hB hr hst hJ hs hen
  have hto := hr.1.2.2.2.2.2.1
  have hto1 := hr.1.2.2.2.2.1
  obtain ⟨hc, ⟨h2, h3⟩, hT, hU, hTb, hPt, hLk, h93, h94⟩ := id hr
  have hTw := hT.2.2.2.2.1
  have hUw := hU.2.2.2.2.1
  obtain ⟨wT1, wT2, wT3, wT4, wT5, wT6, wT7⟩ := hTw.2.1 i hi
  obtain ⟨wU1, wU2, wU3, wU4, wU5, wU6, wU7⟩ := hUw.2.1 j hj
  have hD7 : D ≤ 7 := by omega
  have hnT := hTw.1.2.1
  have hnU := hUw.1.2.1
  obtain ⟨hr0, fJ0⟩ := zJr_stack hr (zFr_pop s)
  have fS0 : zFrS s J (zup J 89 29 (nI s)) := fun c c1 c2 x _ => zup_nb _ _ _ (by omega) _
  have e91 : zup J 89 29 (nI s) 90 = J 90 := zup_ne _ _ _ (by decide)
  have hx := joins39 (F := F) hRM hto hJ (show s < 1000 by omega) hPt.2.2.1 hPt.1
  have hen0 : zEn (zup J 89 29 (nI s)) s (0, nI i, 0, nI j, 0) := zEn_frS (s' := s + 1) hen (fun c c1 c2 x _ => zup_nb _ _ _ (by omega) _) (by omega)
  have hcases := node_cases (F := F) (J := zup J 89 29 (nI s)) (n := L.length) (D := D) hF hRM h2 h3 hc.2.1 (by rw [hc.2.2.1.1]) hT.2.2.1 hU.2.2.1 hto hTw hUw hT.2.2.2.2.2.1 hU.2.2.2.2.2.1 (by rw [e91]; exact hT.2.2.2.2.2.2) (by rw [e91]; exact hU.2.2.2.2.2.2) hi hj (fun y hy => by rw [zup_nb _ _ _ (by decide)]; exact h93 y hy) (fun y hy => by rw [zup_nb _ _ _ (by decide)]; exact h94 y hy) (by rw [e91]; exact hPt.2.2.1) hD7 (by rw [e91]; exact hc.2.2.2.2.2.2.2.1) (by rw [e91]; exact hc.2.2.2.2.2.2.2.2) (zup_self _ _ _ _) (by omega) hen0 (f_X0_joinNodes F K B)
  show JOut F K RM p w to t a u b T U I R J L (g_X0_joinNodes F K (f_X0_joinNodes F K B) I R 21 (nI i) (nI j) (nI D)) rest s
  have hfull : L.length = 32 → ∀ I' R', g_X0_joinNodes F K (f_X0_joinNodes F K B) I R 21 (nI i) (nI j) (nI D) = some (0, I', R') → zJfC p I I' R R' → JOut F K RM p w to t a u b T U I R J L (g_X0_joinNodes F K (f_X0_joinNodes F K B) I R 21 (nI i) (nI j) (nI D)) rest s := fun hl I' R' he fC => ⟨0, I', R', zup J 89 29 (nI s), 1, Or.inl rfl, he, fC, fJ0, by omega, fun _ f => by rw [hx, if_pos hl], fun e => absurd e (by decide)⟩
  have kp := hc.2.2.1
  have rp := hc.2.2.2.1
  rcases hcases with ⟨hA, hE, eC, eJ⟩ | ⟨hA, hE, eC, eJ⟩ | ⟨hS, hE, hm, eC, eJ⟩ | ⟨eC, eJ⟩
  · -- rule 1
    have htg := wT3 hA.1
    by_cases hl : L.length = 32
    · refine hfull hl I R ?_ (zJfC_refl _ _ _)
      rw [eC, X5_append_full kp.2 rp (by rw [hPt.2.1, hl]) (show tg T i < 64 by omega), zbd2_s, if_pos rfl]
    · have hn := hPt.1
      rw [eC, X5_append_ok kp.2 rp hPt.2.1 (show L.length < 32 by omega) (show tg T i < 64 by omega) wT2, zbd2_s, if_neg (by decide), show tg T i * 16 + tr T i = 0 * 256 + tg T i * 16 + tr T i by omega]
      refine even_out (k := 1) hF hRM hJN hi hj hDT hDU hB (sy := 0) (g := tg T i) hr0 (by omega) hst (zup_self _ _ _ _) hs hE.1 (Or.inl rfl) ⟨fun _ => htg, fun e => absurd rfl e⟩ fJ0 fS0 (fun J1 hp he f => ?_) rfl
      have hw : f_X7_writes F zKm (zup J 89 29 (nI s)) RM 89 (nI to) (nI L.length) (0 : Int32) (nI (tg T i)) (nI (tr T i)) = some (zWr (zup J 89 29 (nI s)) to L.length 0 (tg T i) (tr T i)) := X7_writes hRM hto (by omega) _ _ _
      rw [hx, if_neg hl, eJ, hw, zbd_s, hp, zbd_s, zbd2_s, if_neg (by decide), zrd_s (by rw [zKm91]; show to < 5751; omega) (by decide), zbd_s, he, zwr_s (by rw [zKm91]; show to < 5751; omega) (by decide), zbd_s, nI_1]
  · -- rule 2
    have htg := wT3 hA.1
    rw [eC]
    refine JOut_end2 ?_
    have hw : (if nI (tr U j) < nI (tr T i) then nI (tr U j) else nI (tr T i)) = nI (min (tr T i) (tr U j)) := by
      by_cases h : tr U j < tr T i
      · rw [if_pos (nI_lt h (by omega)), Nat.min_eq_right (by omega)]
      · rw [if_neg (nI_nlt (by omega) (by omega)), Nat.min_eq_left (by omega)]
    obtain ⟨P, p1, p2, p3, p4, p5⟩ := front_both (F := F) (J := zup J 89 29 (nI s)) hF h2 h3 hRM hT.2.2.1 hU.2.2.1 hTw hUw hT.2.2.2.2.2.1 hU.2.2.2.2.2.1 (by rw [e91]; exact hT.2.2.2.2.2.2) (by rw [e91]; exact hU.2.2.2.2.2.2) hi hj (fun y hy => by rw [zup_nb _ _ _ (by decide)]; exact h93 y hy) (fun y hy => by rw [zup_nb _ _ _ (by decide)]; exact h94 y hy) (f_X0_joinNodes F K B) (nI D) (w := min (tr T i) (tr U j)) rfl (min (tr T i) (tr U j)) 0 F F (Nat.zero_add _) (by omega) (by omega)
    obtain ⟨Q, q1, q2, q3, q4, q5⟩ := back_both (F := F) (J := zup J 89 29 (nI s)) hF h2 h3 hRM hT.2.2.1 hU.2.2.1 hTw hUw hT.2.2.2.2.2.1 hU.2.2.2.2.2.1 (by rw [e91]; exact hT.2.2.2.2.2.2) (by rw [e91]; exact hU.2.2.2.2.2.2) hi hj (fun y hy => by rw [zup_nb _ _ _ (by decide)]; exact h93 y hy) (fun y hy => by rw [zup_nb _ _ _ (by decide)]; exact h94 y hy) (f_X0_joinNodes F K B) (nI D) (w := min (tr T i) (tr U j)) (P := P) rfl p2 (min (tr T i) (tr U j) - P) 0 F F (by omega) (by omega) (by omega)
    have hPT : P + Q ≤ tr T i := by omega
    have hPU : P + Q ≤ tr U j := by omega
    have hsq : P + Q + 1 ≤ 8 ∧ (1 ≤ tr T i ∨ 1 ≤ tr U j) := by
      by_cases hm : tr T i = tr U j
      · have hQ : ¬ (sqO T i = none ∧ sqO U j = none) := fun h => hE ⟨hm, h⟩
        cases hsT : sqO T i with
        | some g =>
          obtain ⟨g1, g2⟩ := sqO_lt hsT
          have a1 : P ≤ g := by
            rcases Nat.lt_or_ge g P with h | h
            · have := (p5 g (Nat.zero_le _) h).1; omega
            · exact h
          have a2 : Q ≤ tr T i - 1 - g := by
            rcases Nat.lt_or_ge (tr T i - 1 - g) Q with h | h
            · have := (q5 (tr T i - 1 - g) (Nat.zero_le _) h).1
              rw [show tr T i - 1 - (tr T i - 1 - g) = g by omega] at this
              omega
            · exact h
          omega
        | none =>
          cases hsU : sqO U j with
          | none => exact absurd ⟨hsT, hsU⟩ hQ
          | some g =>
            obtain ⟨g1, g2⟩ := sqO_lt hsU
            have a1 : P ≤ g := by
              rcases Nat.lt_or_ge g P with h | h
              · have := (p5 g (Nat.zero_le _) h).2; omega
              · exact h
            have a2 : Q ≤ tr U j - 1 - g := by
              rcases Nat.lt_or_ge (tr U j - 1 - g) Q with h | h
              · have := (q5 (tr U j - 1 - g) (Nat.zero_le _) h).2
                rw [show tr U j - 1 - (tr U j - 1 - g) = g by omega] at this
                omega
              · exact h
            omega
      · omega
    have hD1 : D + 1 ≤ 7 := by
      rcases hsq.2 with h | h
      · have h1 := (hTw.2.1 _ (tc_lt hTw.1 hi (show 0 < tr T i by omega)).2.2).2.2.2.2.2.2
        rw [hTw.1.2.2.2.2.2.2 i hi 0 (by omega)] at h1
        omega
      · have h1 := (hUw.2.1 _ (tc_lt hUw.1 hj (show 0 < tr U j by omega)).2.2).2.2.2.2.2.2
        rw [hUw.1.2.2.2.2.2.2 j hj 0 (by omega)] at h1
        omega
    have aT : ∀ k, k ≤ tr T i → f_X5_argument F K I R t (nI i) (nI k) = some (nI (tc T i k)) := fun k hk => X5_argument hT.2.2.2.2.2.1 hTw (by omega) (by omega) (fun x hx => (tc_lt hTw.1 hi (show x < tr T i by omega)).2.2)
    have aU : ∀ k, k ≤ tr U j → f_X5_argument F K I R u (nI j) (nI k) = some (nI (tc U j k)) := fun k hk => X5_argument hU.2.2.2.2.2.1 hUw (by omega) (by omega) (fun x hx => (tc_lt hUw.1 hj (show x < tr U j by omega)).2.2)
    have t15 : (K t).1 = 15 := by rw [hT.2.2.2.2.2.1.1]
    have u15 : (K u).1 = 15 := by rw [hU.2.2.2.2.2.1.1]
    have hcT := tc_end hTw.1 hi
    have hcU := tc_end hUw.1 hj
    have mT1 := tc_mono (T := T) (i := i) (show P ≤ tr T i - Q by omega)
    have mT2 := tc_mono (T := T) (i := i) (show tr T i - Q ≤ tr T i by omega)
    have mU1 := tc_mono (T := U) (i := j) (show P ≤ tr U j - Q by omega)
    have mU2 := tc_mono (T := U) (i := j) (show tr U j - Q ≤ tr U j by omega)
    have eC2 : f_X0_joinAligned F K (f_X0_joinNodes F K B) I R 21 (nI i) (nI j) (nI D) = (zbd2 (f_X5_append F K I R p (nI (tg T i)) (nI (P + 1 + Q))) fun v35 I36 => if v35 = (0 : Int32) then some ((0 : Int32), I36, R) else (zbd3 (f_X0_joinRow F K (f_X0_joinNodes F K B) I36 R 21 (nI (i + 1)) (nI (j + 1)) (nI P) (nI (D + 1))) fun v39 I40 R41 => if v39 = (0 : Int32) then some ((0 : Int32), I40, R41) else (zbd3 (f_X0_appendHole F K I40 R41 21 (nI 3) (nI 0) (nI (tc T i P)) (nI (tc T i (tr T i - Q) - tc T i P)) (nI (tc U j P)) (nI (tc U j (tr U j - Q) - tc U j P))) fun v44 I45 R46 => if v44 = (0 : Int32) then some ((0 : Int32), I45, R46) else (zbd3 (f_X0_joinRow F K (f_X0_joinNodes F K B) I45 R46 21 (nI (tc T i (tr T i - Q))) (nI (tc U j (tr U j - Q))) (nI Q) (nI (D + 1))) fun v49 I50 R51 => if v49 = (0 : Int32) then some ((0 : Int32), I50, R51) else some ((1 : Int32), I50, R51))))) := by
      have e0 : f_X0_joinAligned F K (f_X0_joinNodes F K B) I R 21 (nI i) (nI j) (nI D) = f_X0_joinAligned_128 F K (f_X0_joinNodes F K B) 21 I R (nI i) (nI j) (nI D) (nI (tr T i)) (nI (tr U j)) (nI P) (nI Q) := by
        unfold f_X0_joinAligned
        rw [h2, zbd_s, zdr_s t15, zbd_s, X5_argumentsOf hT.2.2.2.2.2.1 hTw hi, zbd_s, h3, zbd_s, zdr_s u15, zbd_s, X5_argumentsOf hU.2.2.2.2.2.1 hUw hj, zbd_s, hw, zbd_s]
        exact p3.trans q3
      rw [e0]
      unfold f_X0_joinAligned_128
      rw [h2, zbd_s, zdr_s t15, zbd_s, aT P (by omega), zbd_s, zbd_s, zdr_s t15, zbd_s, nI_sub (show Q ≤ tr T i by omega), aT _ (by omega), zbd_s, h3, zbd_s, zdr_s u15, zbd_s, aU P (by omega), zbd_s, zbd_s, zdr_s u15, zbd_s, nI_sub (show Q ≤ tr U j by omega), aU _ (by omega), zbd_s, hc.2.1, zbd_s, zbd_s, zdr_s t15, zbd_s, X5_headOf hT.2.2.2.2.2.1 hTw hi, zbd_s, zdr_s (t := 15) (by rw [kp.1]), zbd_s, hA.1, show 0 * 16 + tg T i = tg T i by omega, nI_1, nI_add, nI_1, nI_1, nI_1, nI_sub mT1, nI_sub mU1]
      rfl
    rw [eC2]
    by_cases hl : L.length = 32
    · refine ⟨0, I, R, zup J 89 29 (nI s), 1, Or.inl rfl, ?_, zJfC_refl _ _ _, fJ0, by omega, fun _ f => by rw [hx, if_pos hl], fun e => absurd e (by decide)⟩
      rw [X5_append_full kp.2 rp (by rw [hPt.2.1, hl]) (show tg T i < 64 by omega), zbd2_s, if_pos rfl]
    · have hn := hPt.1
      rw [X5_append_ok kp.2 rp hPt.2.1 (show L.length < 32 by omega) (show tg T i < 64 by omega) (show P + 1 + Q ≤ 8 by omega), zbd2_s, if_neg (by decide), show tg T i * 16 + (P + 1 + Q) = 0 * 256 + tg T i * 16 + (P + 1 + Q) by omega]
      obtain ⟨J1, g1, g2, g3, g4, g5, g6⟩ := gap146 (F := F) hRM (by omega) hTw hUw hi hj hPT hPU Q 0 F s (zup J 89 29 (nI s)) (Nat.zero_add _) (zup_self _ _ _ _) (by omega) (by omega) (fun y hy => by rw [zup_nb _ _ _ (by decide)]; exact h93 y hy) (fun y hy => by rw [zup_nb _ _ _ (by decide)]; exact h94 y hy)
      obtain ⟨hr1, fJ1⟩ := zJr_stack hr0 g2
      have hlen : (List.replicate P (D + 1, false) ++ (D + 1, true) :: List.replicate Q (D + 1, false)).length = P + 1 + Q := by
        rw [List.length_append, List.length_cons, List.length_replicate, List.length_replicate]; omega
      have hok : okV D false (0, tg T i, List.replicate P (D + 1, false) ++ (D + 1, true) :: List.replicate Q (D + 1, false)) := by
        refine ⟨⟨fun e => (by cases e), fun e => (by cases e)⟩, fun x hx => ?_, one_gap _ _ _⟩
        rcases List.mem_append.mp hx with hx | hx
        · rw [List.eq_of_mem_replicate hx]
        · rcases List.mem_cons.mp hx with hx | hx
          · rw [hx]
          · rw [List.eq_of_mem_replicate hx]
      obtain ⟨c1, c2, c3⟩ := rel_append (sk := s) (v := (0, tg T i, List.replicate P (D + 1, false) ++ (D + 1, true) :: List.replicate Q (D + 1, false))) (J1 := zWr J1 to L.length 0 (tg T i) (P + 1 + Q)) hr1 (by omega) hst hok hD7 ⟨Nat.zero_le _, (by rw [hlen]; omega), fun _ => htg, fun e => absurd rfl e, fun e => (by rcases e with e | e <;> cases e), fun e => (by cases e)⟩ (fun e => absurd rfl e) (by rw [hlen]; exact zFr_refl _ _)
      rw [hlen] at c1 c2
      have j91 : J1 90 = J 90 := by rw [g2.1 90 (by decide) (by decide), e91]
      have hJ2 : ∀ c, c ≠ 90 → zup (zWr J1 to L.length 0 (tg T i) (P + 1 + Q)) 90 to (nI (L.length + 1)) c = J1 c := fun c hc => by rw [zup_ne _ _ _ hc, zWr_ne hc]
      have hent : ∀ {x : Nat} {e : Int32 × Int32 × Int32 × Int32 × Int32}, zEn J1 x e → zEn (zup (zWr J1 to L.length 0 (tg T i) (P + 1 + Q)) 90 to (nI (L.length + 1))) x e := fun {x e} h => by
        obtain ⟨e1, e2, e3, e4, e5⟩ := h
        exact ⟨by rw [hJ2 _ (by decide)]; exact e1, by rw [hJ2 _ (by decide)]; exact e2, by rw [hJ2 _ (by decide)]; exact e3, by rw [hJ2 _ (by decide)]; exact e4, by rw [hJ2 _ (by decide)]; exact e5⟩
      refine JOut_seq (k1 := 1) (J1 := zup (zWr J1 to L.length 0 (tg T i) (P + 1 + Q)) 90 to (nI (L.length + 1))) (I1 := zAp I p L.length 0 (tg T i) (P + 1 + Q)) (R1 := R) (L1 := L ++ [(0, tg T i, List.replicate P (D + 1, false) ++ (D + 1, true) :: List.replicate Q (D + 1, false))]) (fun f => ?_) (by rw [List.length_append]; rfl) c2 (zJfJ_trans fJ0 (zJfJ_trans fJ1 c3)) (fun c d1 d2 x hx => ?_) ?_
      · have hpa : f_X7_pushesAligned F zKm (zup J 89 29 (nI s)) RM 89 (nI a) (nI i) (nI b) (nI j) = some (nI (P + 1 + Q), J1) := by
          unfold f_X7_pushesAligned
          rw [X7_arguments (hRM 89 0 (by decide) (by decide) (by decide)) hT.2.2.1 (by rw [e91]; exact hT.2.2.2.2.2.2) hnT hi, zbd_s, X7_arguments (hRM 89 0 (by decide) (by decide) (by decide)) hU.2.2.1 (by rw [e91]; exact hU.2.2.2.2.2.2) hnU hj, zbd_s]
          exact (p4.trans q4).trans g1
        have hw1 : f_X7_writes F zKm J1 RM 89 (nI to) (nI L.length) (0 : Int32) (nI (tg T i)) (nI (P + 1 + Q)) = some (zWr J1 to L.length 0 (tg T i) (P + 1 + Q)) := X7_writes hRM hto (by omega) _ _ _
        rw [hx, if_neg hl, eJ, hpa, zbd2_s, hw1, zbd_s, zbd2_s, if_neg (by decide), zrd_s (by rw [zKm91]; show to < 5751; omega) (by decide), zbd_s, zWr_to hto, j91, hPt.2.2.1, zwr_s (by rw [zKm91]; show to < 5751; omega) (by decide), zbd_s, nI_1]
      · rw [hJ2 c (by omega), g2.2.2 c d1 d2 x hx, fS0 c d1 d2 x hx]
      · refine JOut_bind (s1 := s + Q + 1) (rest1 := (D + 1, true) :: (List.replicate Q (D + 1, false) ++ rest)) (cls2 := fun I40 R41 => zbd3 (f_X0_appendHole F K I40 R41 21 (nI 3) (nI 0) (nI (tc T i P)) (nI (tc T i (tr T i - Q) - tc T i P)) (nI (tc U j P)) (nI (tc U j (tr U j - Q) - tc U j P))) fun v44 I45 R46 => if v44 = (0 : Int32) then some ((0 : Int32), I45, R46) else (zbd3 (f_X0_joinRow F K (f_X0_joinNodes F K B) I45 R46 21 (nI (tc T i (tr T i - Q))) (nI (tc U j (tr U j - Q))) (nI Q) (nI (D + 1))) fun v49 I50 R51 => if v49 = (0 : Int32) then some ((0 : Int32), I50, R51) else some ((1 : Int32), I50, R51))) (by omega) ?_ ?_
        · exact row_both (F := F) (RM := RM) hJN (h := P) (i0 := i + 1) (j0 := j + 1) (D := D + 1) (by omega) (fun y hy => ⟨(tc_lt hTw.1 hi (by omega)).2.2, by rw [← hDT]; exact hTw.1.2.2.2.2.2.2 i hi y (by omega)⟩) (fun y hy => ⟨(tc_lt hUw.1 hj (by omega)).2.2, by rw [← hDU]; exact hUw.1.2.2.2.2.2.2 j hj y (by omega)⟩) (by omega) P 0 F _ R _ _ H _ (s + Q + 1) (Nat.zero_add _) (by omega) c1 (by rw [stL_snoc, hst, List.append_assoc]; rfl) (by rw [hJ2 _ (by decide), g3]) (by omega) (fun y _ hy => hent (g6 y hy))
        · intro I2 R2 J2 L2 H2 x1 x2 x3 x4
          have engap : zEn J2 (s + Q) (1, nI (tc T i P), nI (tc T i (tr T i - Q) - tc T i P), nI (tc U j P), nI (tc U j (tr U j - Q) - tc U j P)) := zEn_frS (hent g5) x4 (by omega)
          refine JOut_bind (s1 := s + Q) (rest1 := List.replicate Q (D + 1, false) ++ rest) (cls2 := fun I45 R46 => zbd3 (f_X0_joinRow F K (f_X0_joinNodes F K B) I45 R46 21 (nI (tc T i (tr T i - Q))) (nI (tc U j (tr U j - Q))) (nI Q) (nI (D + 1))) fun v49 I50 R51 => if v49 = (0 : Int32) then some ((0 : Int32), I50, R51) else some ((1 : Int32), I50, R51)) (by omega) ?_ ?_
          · refine leaf_out (F := F) hF hRM x1 (Or.inr rfl) (by omega) (by omega) x2 ⟨fun _ => rfl, fun _ => rfl⟩ hD1 x3 (by omega) ?_
            exact gap_next hRM (zup_self _ _ _ _) (by omega) (zEn_frS (s' := s + Q + 1) engap (fun c c1 c2 x _ => zup_nb _ _ _ (by omega) _) (by omega))
          · intro I3 R3 J3 L3 H3 y1 y2 y3 y4
            refine JOut_end ?_
            have wT : ∀ y, wk (tsp T) y (tc T i (tr T i - Q)) = tc T i (tr T i - Q + y) := fun y => (wk_add _ _ _ _).symm
            have wU : ∀ y, wk (tsp U) y (tc U j (tr U j - Q)) = tc U j (tr U j - Q + y) := fun y => (wk_add _ _ _ _).symm
            exact row_both (F := F) (RM := RM) hJN (h := Q) (i0 := tc T i (tr T i - Q)) (j0 := tc U j (tr U j - Q)) (D := D + 1) (by omega) (fun y hy => by rw [wT]; exact ⟨(tc_lt hTw.1 hi (by omega)).2.2, by rw [← hDT]; exact hTw.1.2.2.2.2.2.2 i hi _ (by omega)⟩) (fun y hy => by rw [wU]; exact ⟨(tc_lt hUw.1 hj (by omega)).2.2, by rw [← hDU]; exact hUw.1.2.2.2.2.2.2 j hj _ (by omega)⟩) (by omega) Q 0 F _ R3 _ _ H3 _ s (Nat.zero_add _) (by omega) y1 y2 y3 (by omega) (fun y _ hy => by
              rw [wT, wU]
              exact zEn_frS (zEn_frS (hent (g4 y hy)) x4 (by omega)) y4 (by omega))
  · -- rule 3
    rw [eC]
    rcases hole_node (F := F) hF hRM hr0 (sH := 2) (i := i) (c := 1) (j := j) (e := 1) (r := tr T i) (by omega) (by omega) (by omega) (fun _ => ⟨⟨hi, hS.1⟩, hj, hS.2⟩) wT2 with ⟨a1, a2⟩ | ⟨y, H', I1, R1, J1, b1, b2, b3, b3', b4, b5, b6, b7, b8, b9, b10, b11⟩
    · rw [a1, zbd3_s, if_pos rfl]
      by_cases hl : L.length = 32
      · exact ⟨0, I, R, zup J 89 29 (nI s), 1, Or.inl rfl, rfl, zJfC_refl _ _ _, fJ0, by omega, fun _ f => by rw [hx, if_pos hl], fun e => absurd e (by decide)⟩
      · have hPt1 := hPt.1
        have hne : ∀ c, c ≠ 90 → zup (zup (zup (zup J 89 29 (nI s)) 90 (to + 1 + 3 * L.length) (nI 2)) 90 (to + 2 + 3 * L.length) (-9)) 90 (to + 3 + 3 * L.length) (nI (tr T i)) c = zup J 89 29 (nI s) c := fun c hc => by rw [zup_ne _ _ _ hc, zup_ne _ _ _ hc, zup_ne _ _ _ hc]
        obtain ⟨J1, g1, g2, g3, -⟩ := push_even (F := F) (J := zup (zup (zup (zup J 89 29 (nI s)) 90 (to + 1 + 3 * L.length) (nI 2)) 90 (to + 2 + 3 * L.length) (-9)) 90 (to + 3 + 3 * L.length) (nI (tr T i))) hRM (by omega) hTw hUw hi hj rfl hE.1 (s := s) (by rw [hne _ (by decide)]; exact zup_self _ _ _ _) (by omega) (fun y hy => by rw [hne _ (by decide), zup_nb _ _ _ (by decide)]; exact h93 y hy) (fun y hy => by rw [hne _ (by decide), zup_nb _ _ _ (by decide)]; exact h94 y hy)
        refine ⟨0, I, R, J1, 1, Or.inl rfl, rfl, zJfC_refl _ _ _, ⟨fun c c1 c2 c3 => ?_, fun k k1 k2 => ?_, fun q hq => ?_⟩, by omega, fun _ f => ?_, fun e => absurd e (by decide)⟩
        · rw [g2.1 c c1 (by omega), hne c c2, zup_ne _ _ _ c1]
        · rw [g2.2.1 k k2, hne 89 (by decide), zup_self_ne _ _ _ k2]
        · rw [g2.1 90 (by decide) (by decide), zup_self_ne _ _ _ (by omega), zup_self_ne _ _ _ (by omega), zup_self_ne _ _ _ (by omega), zup_nb _ _ _ (by decide)]
        · rw [hx, if_neg hl, eJ, a2, zbd2_s, zrd_s (by rw [zKm91]; show to < 5751; omega) (by decide), zbd_s, e91, hPt.2.2.1, X7_writes hRM hto (by omega), zbd_s, g1, zbd_s, if_pos rfl, zbd2_s, if_pos rfl]
    · by_cases hl : L.length = 32
      · rw [b11 hl, zbd3_s, if_pos rfl]
        exact ⟨0, I1, R1, zup J 89 29 (nI s), 1, Or.inl rfl, rfl, b5, fJ0, by omega, fun _ f => by rw [hx, if_pos hl], fun e => absurd e (by decide)⟩
      · have hPt1 := hPt.1
        rw [b10 (by omega), zbd3_s, if_neg (by decide)]
        have j91 : J1 90 = J 90 := by rw [b8, e91]
        have hout := even_out (F := F) (k := 1) (I := I1) (R := R1) (J := J1) (J0 := J) hF hRM hJN hi hj hDT hDU hB (sy := 2) (g := y) b2 (by omega) hst (by rw [b9]; exact zup_self _ _ _ _) hs hE.1 (Or.inr rfl) ⟨fun e => (by cases e), fun _ => ⟨by omega, hm, b3, b4⟩⟩ (zJfJ_trans fJ0 b6) (fun c c1 c2 x hx => by rw [b7 c (by omega)]; exact fS0 c c1 c2 x hx) (fun J2 hp he f => by
          have hw : f_X7_writes F zKm J1 RM 89 (nI to) (nI L.length) (nI 2) (nI y) (nI (tr T i)) = some (zWr J1 to L.length 2 y (tr T i)) := X7_writes hRM hto (by omega) _ _ _
          rw [hx, if_neg hl, eJ, b1, zbd2_s, zrd_s (by rw [zKm91]; show to < 5751; omega) (by decide), zbd_s, j91, hPt.2.2.1, hw, zbd_s, hp, zbd_s, if_neg (nim9 (show y < 2 ^ 31 by omega)), zbd2_s, if_neg (by decide), zrd_s (by rw [zKm91]; show to < 5751; omega) (by decide), zbd_s, he, zwr_s (by rw [zKm91]; show to < 5751; omega) (by decide), zbd_s, nI_1]) rfl
        obtain ⟨v, I', R', J', k, d1, d2, d3, d4, d5, d6, d7⟩ := hout
        exact ⟨v, I', R', J', k, d1, d2, zJfC_trans b5 d3, d4, d5, d6, d7⟩
  · -- rule 4
    rw [eC]
    exact JOut_end2 (leaf_out (F := F) hF hRM hr (Or.inl rfl) (hTw.1.2.2.2.1 i hi).1 (hUw.1.2.2.2.1 j hj).1 hst ⟨fun e => (by cases e), fun e => (by cases e)⟩ hD7 hJ (by omega) eJ)
theorem join_all (hF : 200 ≤ F) (hRM : zRM RM) : ∀ B, JN F K RM p w to t a u b T U B := by
  intro B
  induction B with
  | zero =>
    intro i j D I R J L H rest s hi hj hDT hDU hB hr hst hJ hs hen
    have := (hr.2.2.1.2.2.2.2.1.2.1 i hi).2.2.2.2.2.2
    omega
  | succ B ih => exact join_node hF hRM ih
end ZJY
