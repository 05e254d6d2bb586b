/-! THE GHOST JOINS: one node, and the loop; what it computes is jn -/
def tN3 (T : Tm) : Prop := ∀ i, i < tn T → ts T i ≠ 3
theorem sqO_n3 {T : Tm} (hT : tWF T) (h : tN3 T) {i : Nat} (hi : i < tn T) : sqO T i = none := by
  cases e : sqO T i with
  | none => rfl
  | some g => exact absurd (sqO_lt e).2 (h _ (tc_lt hT.1 hi (sqO_lt e).1).2.2)
/-- nodes in preorder: number, arguments -/
def qLi : aFo → List (Nat × Nat)
  | .leaf _ => []
  | .branch w k r => (w, qLn k) :: (qLi k ++ qLi r)
theorem qLi_len : ∀ G : aFo, (qLi G).length = qSz G := by
  intro G
  induction G with
  | leaf _ => rfl
  | branch w k r ihk ihr => rw [qLi, List.length_cons, List.length_append, ihk, ihr, qSz]; omega
theorem qLi_at : ∀ (G : aFo) (i : Nat), i < qSz G → ∃ v, (qLi G)[i]? = some v ∧ qNd G i = (v.1 / 16, v.1 % 16, v.2) := by
  intro G
  induction G with
  | leaf _ => intro i h; exact absurd h (Nat.not_lt_zero _)
  | branch w k r ihk ihr =>
    intro i h
    rw [qSz] at h
    rw [qLi, qNd]
    cases i with
    | zero => rw [if_pos rfl]; exact ⟨(w, qLn k), rfl, rfl⟩
    | succ i =>
      rw [if_neg (by omega), List.getElem?_cons_succ]
      by_cases c : i < qSz k
      · rw [if_pos (by omega), List.getElem?_append_left (by rw [qLi_len]; exact c), Nat.add_sub_cancel]
        exact ihk i c
      · rw [if_neg (by omega), List.getElem?_append_right (by rw [qLi_len]; omega), qLi_len, Nat.add_sub_cancel]
        exact ihr _ (by omega)
/-- a row of the page holds these nodes -/
def gRow (J : zI) (to : Nat) (L : List (Nat × Nat)) : Prop := J 90 to = nI L.length ∧ ∀ (i : Nat) (v : Nat × Nat), L[i]? = some v → J 90 (to + 1 + 3 * i) = nI (v.1 / 16) ∧ J 90 (to + 2 + 3 * i) = nI (v.1 % 16) ∧ J 90 (to + 3 + 3 * i) = nI v.2
theorem gRow_tm {J : zI} {to : Nat} {G : aFo} (h : gRow J to (qLi G)) : zTm (J 90) to (tmF G) := by
  refine ⟨by rw [h.1, qLi_len]; rfl, fun i hi => ?_⟩
  obtain ⟨v, v1, v2⟩ := qLi_at G i hi
  obtain ⟨a1, a2, a3⟩ := h.2 i v v1
  rw [q_ts_f, q_tg_f, q_tr_f, v2]
  exact ⟨a1, a2, a3⟩
section GJ
variable {F : Nat} {J J' : zI} {RM : zR} {a b to n s i j : Nat} {T U : Tm} {tb tb' : pTb} {L L' : List (Nat × Nat)} {hd : Bool}
theorem gNext (hF : 200 ≤ F) (hRM : zRM RM) (ha : a + 97 ≤ 5751) (hb : b + 97 ≤ 5751) (hto : to + 97 ≤ 5751) (hT : tWF T) (hU : tWF U) (hTm : zTm (J 90) a T) (hUm : zTm (J 90) b U) (hi : i < tn T) (hj : j < tn U) (h93 : ∀ y, y < tn T → J 92 y = nI (tsp T y)) (h94 : ∀ y, y < tn U → J 93 y = nI (tsp U y)) (hn : J 90 to = nI n) (hs : J 89 29 = nI s) (hs2 : s < 160) {y z : Int32} (hen : zEn J s (0, nI i, y, nI j, z)) (hT3 : tN3 T) (hU3 : tN3 U) (h777 : J 90 777 = 0) :
    f_X7_joinsNext F zKm J RM 89 (nI a) (nI b) (nI to) = if ts T i = 0 ∧ ts U j = 0 ∧ tg T i = tg U j ∧ tr T i = tr U j then (zbd (f_X7_writes F zKm J RM 89 (nI to) (nI n) (nI 0) (nI (tg T i)) (nI (tr T i))) fun I80 => zbd (f_X7_pushesEven F zKm I80 RM 89 (nI i) (nI j) (nI (tr T i))) fun I82 => some ((1 : Int32), I82))
      else if J 90 776 = 1 ∧ ts T i = 0 ∧ ts U j = 0 ∧ tg T i ≠ tg U j ∧ tr T i = tr U j ∧ 0 < tr T i then (zbd2 (f_X7_holeFor F zKm J RM 89 (nI 2) (nI a) (nI i) (nI 1) (nI b) (nI j) (nI 1)) fun v34 I35 => zbd (zrd zKm I35 90 (nI to)) fun v41 => zbd (f_X7_writes F zKm I35 RM 89 (nI to) v41 (nI 2) v34 (nI (tr T i))) fun I42 => zbd (f_X7_pushesEven F zKm I42 RM 89 (nI i) (nI j) (nI (tr T i))) fun I44 => if v34 = (-9 : Int32) then some ((0 : Int32), I44) else some ((1 : Int32), I44))
      else (zbd2 (f_X7_holeFor F zKm J RM 89 (nI 1) (nI a) (nI i) (nI (tsp T i)) (nI b) (nI j) (nI (tsp U j))) fun v11 I12 => zbd (zrd zKm I12 90 (nI to)) fun v18 => zbd (f_X7_writes F zKm I12 RM 89 (nI to) v18 (nI 1) v11 (nI 0)) fun I19 => if v11 = (-9 : Int32) then some ((0 : Int32), I19) else some ((1 : Int32), I19)) := by
  have r0 : RM 89 0 = some 90 := hRM 89 0 (by decide) (by decide) (by decide)
  have r5 : RM 89 5 = some 92 := hRM 89 5 (by decide) (by decide) (by decide)
  have r6 : RM 89 6 = some 93 := hRM 89 6 (by decide) (by decide) (by decide)
  have r24 : RM 89 24 = some 107 := hRM 89 24 (by decide) (by decide) (by decide)
  have r25 : RM 89 25 = some 108 := hRM 89 25 (by decide) (by decide) (by decide)
  have r26 : RM 89 26 = some 109 := hRM 89 26 (by decide) (by decide) (by decide)
  have k93 : zKm 92 = (1, 32) := rfl
  have k94 : zKm 93 = (1, 32) := rfl
  have k108 : zKm 107 = (2, 160) := rfl
  have k109 : zKm 108 = (1, 160) := rfl
  have k110 : zKm 109 = (1, 160) := rfl
  have hr := (hT.2.1 i hi).2.1
  have hrU := (hU.2.1 j hj).2.1
  have hn1 := hT.1.2.1
  have hn2 := hU.1.2.1
  have hsT := sqO_n3 hT hT3 hi
  have hsU := sqO_n3 hU hU3 hj
  have hQ : sqO T i = none ∧ sqO U j = none := ⟨hsT, hsU⟩
  obtain ⟨w1, -, w3, -⟩ := hT.2.1 i hi
  obtain ⟨v1, -, v3, -⟩ := hU.2.1 j hj
  obtain ⟨g1, g2, -, g4, -⟩ := hen
  simp only at g1 g2 g4
  have rdto : zrd zKm J 90 (nI to) = some (nI n) := by rw [zrd_s (by rw [zKm91]; show to < 5751; omega) (by decide), hn]
  have e398 : f_X7_joinsNext_398 F zKm RM 89 J (nI a) (nI b) (nI to) (nI i) (nI j) = (zbd2 (f_X7_holeFor F zKm J RM 89 (nI 1) (nI a) (nI i) (nI (tsp T i)) (nI b) (nI j) (nI (tsp U j))) fun v11 I12 => zbd (zrd zKm I12 90 (nI to)) fun v18 => zbd (f_X7_writes F zKm I12 RM 89 (nI to) v18 (nI 1) v11 (nI 0)) fun I19 => if v11 = (-9 : Int32) then some ((0 : Int32), I19) else some ((1 : Int32), I19)) := by
    unfold f_X7_joinsNext_398
    rw [r5, zbd_s, zdr_s (t := 1) (by rw [k93]), zbd_s, zrd_s (by rw [k93]; show i < 32; omega) (by rw [k93]; decide), zbd_s, h93 i hi, r6, zbd_s, zdr_s (t := 1) (by rw [k94]), zbd_s, zrd_s (by rw [k94]; show j < 32; omega) (by rw [k94]; decide), zbd_s, h94 j hj]
    simp only [r0, zbd_s, zd91]
    rfl
  have eJ : f_X7_joinsNext F zKm J RM 89 (nI a) (nI b) (nI to) = f_X7_joinsNext_190 F zKm RM 89 J (nI a) (nI b) (nI to) (nI i) (nI j) (nI (tr T i)) (zQ T U i j) (zE T U i j) (zSy T U i j) := by
    unfold f_X7_joinsNext
    rw [r25, zbd_s, zdr_s (t := 1) (by rw [k109]), zbd_s, hs, zrd_s (by rw [k109]; exact hs2) (by rw [k109]; decide), zbd_s, g2, r26, zbd_s, zdr_s (t := 1) (by rw [k110]), zbd_s, zrd_s (by rw [k110]; exact hs2) (by rw [k110]; decide), zbd_s, g4, r24, zbd_s, zdr_s (t := 2) (by rw [k108]), zbd_s, zrd_s (by rw [k108]; exact hs2) (by rw [k108]; decide), zbd_s, g1, if_pos rfl, j139 hF hRM ha hb hT hU hTm hUm hi hj h93 h94]
    unfold f_X7_joinsNext_163
    rw [X7_sort r0 ha hTm hn1 hi, zbd_s, X7_sort r0 hb hUm hn2 hj, zbd_s]
    by_cases c1 : ts T i = 0
    · rw [if_pos ((ni0 (by omega)).mpr c1)]
      by_cases c2 : ts U j = 0
      · rw [if_pos ((ni0 (by omega)).mpr c2), zSy1 ⟨c1, c2⟩]
      · rw [if_neg (fun e => c2 ((ni0 (by omega)).mp e)), zSy0 (fun e => c2 e.2)]; rfl
    · rw [if_neg (fun e => c1 ((ni0 (by omega)).mp e)), zSy0 (fun e => c1 e.1)]; rfl
  have hal := X7_isAlike (F := F) (J := J) hRM ha hb hT hU hTm hUm hi hj
  have z10 : ¬ ((1 : Int32) = 0) := by decide
  have e776 : zrd zKm J 90 (776 : Int32) = some (J 90 776) := zrd_s (j := 776) (by decide) (by decide)
  have e777 : zrd zKm J 90 (777 : Int32) = some (J 90 777) := zrd_s (j := 777) (by decide) (by decide)
  rw [eJ]
  unfold f_X7_joinsNext_190
  by_cases hS : ts T i = 0 ∧ ts U j = 0
  · have hd := w3 hS.1
    have hd2 := v3 hS.2
    rw [zSy1 hS]
    by_cases hA : tg T i = tg U j
    · rw [if_pos ⟨hS.1, hS.2, hA⟩] at hal
      rw [hal, zbd_s, if_neg z10]
      by_cases hE : tr T i = tr U j
      · rw [zE1 ⟨hE, hQ⟩, if_neg z10, if_pos ⟨hS.1, hS.2, hA, hE⟩, r0, zbd_s, zd91, zbd_s, rdto, zbd_s, X7_number r0 ha hTm hn1 hi, zbd_s]
        rfl
      · rw [zE0 (fun q => hE q.1), if_pos rfl, if_neg (show ¬ (ts T i = 0 ∧ ts U j = 0 ∧ tg T i = tg U j ∧ tr T i = tr U j) from fun q => hE q.2.2.2), if_neg (show ¬ (J 90 776 = 1 ∧ ts T i = 0 ∧ ts U j = 0 ∧ tg T i ≠ tg U j ∧ tr T i = tr U j ∧ 0 < tr T i) from fun q => hE q.2.2.2.2.1)]
        unfold f_X7_joinsNext_243
        rw [hal, zbd_s, if_neg z10, r0, zbd_s, zd91, zbd_s, e777, zbd_s, h777, if_neg (show ¬ ((0 : Int32) = 1) by decide), zQ0 hQ, if_pos rfl]
        unfold f_X7_joinsNext_304
        rw [if_neg z10, hal, zbd_s, if_neg z10, e398]
    · rw [if_neg (fun h => hA h.2.2)] at hal
      rw [hal, zbd_s, if_pos rfl, if_neg (show ¬ (ts T i = 0 ∧ ts U j = 0 ∧ tg T i = tg U j ∧ tr T i = tr U j) from fun q => hA q.2.2.1)]
      unfold f_X7_joinsNext_243
      rw [hal, zbd_s, if_pos rfl]
      unfold f_X7_joinsNext_304
      rw [if_neg z10, hal, zbd_s, if_pos rfl, r0, zbd_s, zd91, zbd_s, e776, zbd_s]
      by_cases h6 : J 90 776 = 1
      · rw [if_pos h6]
        by_cases hE : tr T i = tr U j
        · rw [zE1 ⟨hE, hQ⟩, if_neg z10]
          by_cases hm : 0 < tr T i
          · rw [if_neg (nI_nle (by omega) (by omega)), if_pos ⟨h6, hS.1, hS.2, hA, hE, hm⟩]
            simp only [zbd_s, zd91]
            rfl
          · rw [if_pos (show nI (tr T i) ≤ (0 : Int32) from nI_le (b := 0) (by omega) (by decide)), e398, if_neg (show ¬ (J 90 776 = 1 ∧ ts T i = 0 ∧ ts U j = 0 ∧ tg T i ≠ tg U j ∧ tr T i = tr U j ∧ 0 < tr T i) from fun q => hm q.2.2.2.2.2)]
        · rw [zE0 (fun q => hE q.1), if_pos rfl, e398, if_neg (show ¬ (J 90 776 = 1 ∧ ts T i = 0 ∧ ts U j = 0 ∧ tg T i ≠ tg U j ∧ tr T i = tr U j ∧ 0 < tr T i) from fun q => hE q.2.2.2.2.1)]
      · rw [if_neg h6, e398, if_neg (show ¬ (J 90 776 = 1 ∧ ts T i = 0 ∧ ts U j = 0 ∧ tg T i ≠ tg U j ∧ tr T i = tr U j ∧ 0 < tr T i) from fun q => h6 q.1)]
  · rw [zSy0 hS, if_neg (show ¬ (ts T i = 0 ∧ ts U j = 0 ∧ tg T i = tg U j ∧ tr T i = tr U j) from fun q => hS ⟨q.1, q.2.1⟩), if_neg (show ¬ (J 90 776 = 1 ∧ ts T i = 0 ∧ ts U j = 0 ∧ tg T i ≠ tg U j ∧ tr T i = tr U j ∧ 0 < tr T i) from fun q => hS ⟨q.2.1, q.2.2.1⟩)]
    rw [if_neg (fun h => hS ⟨h.1, h.2.1⟩)] at hal
    rw [hal, zbd_s, if_pos rfl]
    unfold f_X7_joinsNext_243
    rw [hal, zbd_s, if_pos rfl]
    unfold f_X7_joinsNext_304
    rw [if_pos rfl, e398]
/-- what the ghost holds while it joins -/
def gJS (J : zI) (a b to : Nat) (T U : Tm) (hd : Bool) (tb : pTb) (L : List (Nat × Nat)) : Prop := zTm (J 90) a T ∧ zTm (J 90) b U ∧ (∀ y, y < tn T → J 92 y = nI (tsp T y)) ∧ (∀ y, y < tn U → J 93 y = nI (tsp U y)) ∧ gTb J a b T U tb ∧ gRow J to L ∧ J 90 777 = 0 ∧ (J 90 776 = 1 ↔ hd = true)
def gRw (a b to : Nat) : Prop := a + 97 ≤ 5751 ∧ b + 97 ≤ 5751 ∧ 5460 ≤ to ∧ to + 97 ≤ 5751 ∧ (a + 97 ≤ to ∨ to + 97 ≤ a) ∧ (b + 97 ≤ to ∨ to + 97 ≤ b)
theorem gTb_keep (h : gTb J a b T U tb) (h1 : ∀ c, 100 ≤ c → c ≤ 106 → J' c = J c) (h2 : J' 89 16 = J 89 16) : gTb J' a b T U tb := by
  obtain ⟨a1, a2, a3⟩ := h
  refine ⟨a1, by rw [h2]; exact a2, fun x e he => ?_⟩
  obtain ⟨⟨g1, g2, g3, g4, g5, g6, g7⟩, g8, g9⟩ := a3 x e he
  exact ⟨⟨by rw [h1 _ (by decide) (by decide)]; exact g1, by rw [h1 _ (by decide) (by decide)]; exact g2, by rw [h1 _ (by decide) (by decide)]; exact g3, by rw [h1 _ (by decide) (by decide)]; exact g4, by rw [h1 _ (by decide) (by decide)]; exact g5, by rw [h1 _ (by decide) (by decide)]; exact g6, by rw [h1 _ (by decide) (by decide)]; exact g7⟩, g8, g9⟩
theorem gRow_keep (h : gRow J to L) (h1 : J' 90 = J 90) : gRow J' to L := by
  unfold gRow
  rw [h1]
  exact h
theorem gJS_keep (hr : gRw a b to) (hT : tWF T) (hU : tWF U) (h : gJS J a b to T U hd tb L) (hJ : zJfJ to J J') (h1 : gTb J' a b T U tb') (h2 : gRow J' to L') : gJS J' a b to T U hd tb' L' := by
  obtain ⟨h3, h4, h5, h6, -, -, h9, h10⟩ := h
  obtain ⟨r1, r2, r3, r4, r5, r6⟩ := hr
  exact ⟨zTm_keep h3 (fun q hq => hJ.2.2 _ (by omega)) hT.1.2.1, zTm_keep h4 (fun q hq => hJ.2.2 _ (by omega)) hU.1.2.1, fun y hy => by rw [hJ.1 92 (by decide) (by decide) (by decide)]; exact h5 y hy, fun y hy => by rw [hJ.1 93 (by decide) (by decide) (by decide)]; exact h6 y hy, h1, h2, by rw [hJ.2.2 777 (by omega)]; exact h9, by rw [hJ.2.2 776 (by omega)]; exact h10⟩
/-- one node more -/
theorem gRow_app {sk so g r : Nat} {J1 : zI} (hto : to + 97 ≤ 5751) (h : gRow J to L) (hn : L.length < 32) (hg : g < 16) (hJ1 : zFr sk (zWr J to L.length so g r) J1) : gRow (zup J1 90 to (nI (L.length + 1))) to (L ++ [(16 * so + g, r)]) ∧ zJfJ to J (zup J1 90 to (nI (L.length + 1))) ∧ ∀ c, c ≠ 89 → c ≠ 90 → (c < 107 ∨ 111 < c) → zup J1 90 to (nI (L.length + 1)) c = J c := by
  have e91 : ∀ q, zup J1 90 to (nI (L.length + 1)) 90 q = if q = to then nI (L.length + 1) else if q = to + 3 + 3 * L.length then nI r else if q = to + 2 + 3 * L.length then nI g else if q = to + 1 + 3 * L.length then nI so else J 90 q := fun q => by
    rw [zup_row, hJ1.1 90 (by decide) (by decide)]
    unfold zWr
    rw [zup_row, zup_row, zup_row]
  have eb : ∀ c, c ≠ 89 → c ≠ 90 → (c < 107 ∨ 111 < c) → zup J1 90 to (nI (L.length + 1)) c = J c := fun c b1 b2 b3 => by
    rw [zup_ne _ _ _ b2, hJ1.1 c b1 b3]
    unfold zWr
    rw [zup_ne _ _ _ b2, zup_ne _ _ _ b2, zup_ne _ _ _ b2]
  refine ⟨⟨?_, fun x v hv => ?_⟩, ⟨fun c b1 b2 b3 => eb c b1 b2 (by omega), fun k _ hk => ?_, fun q hq => ?_⟩, eb⟩
  · rw [e91, if_pos rfl, List.length_append]; rfl
  · by_cases hx : x < L.length
    · rw [List.getElem?_append_left hx] at hv
      obtain ⟨x2, x3, x4⟩ := h.2 x v hv
      rw [e91, e91, e91, if_neg (by omega), if_neg (by omega), if_neg (by omega), if_neg (by omega), if_neg (by omega), if_neg (by omega), if_neg (by omega), if_neg (by omega), if_neg (by omega), if_neg (by omega), if_neg (by omega), if_neg (by omega)]
      exact ⟨x2, x3, x4⟩
    · have hil : x = L.length := by
        by_cases h : x = L.length
        · exact h
        · rw [List.getElem?_eq_none (by rw [List.length_append]; show L.length + 1 ≤ x; omega)] at hv
          cases hv
      subst hil
      rw [List.getElem?_append_right (Nat.le_refl _), Nat.sub_self] at hv
      cases hv
      refine ⟨?_, ?_, ?_⟩
      · rw [e91, if_neg (by omega), if_neg (by omega), if_neg (by omega), if_pos rfl]
        show nI so = nI ((16 * so + g) / 16)
        rw [show (16 * so + g) / 16 = so by omega]
      · rw [e91, if_neg (by omega), if_neg (by omega), if_pos rfl]
        show nI g = nI ((16 * so + g) % 16)
        rw [show (16 * so + g) % 16 = g by omega]
      · rw [e91, if_neg (by omega), if_pos rfl]
  · rw [zup_nb _ _ _ (by decide), hJ1.2.1 k hk]
    unfold zWr
    rw [zup_nb _ _ _ (by decide), zup_nb _ _ _ (by decide), zup_nb _ _ _ (by decide)]
  · rw [e91, if_neg (by omega), if_neg (by omega), if_neg (by omega), if_neg (by omega)]
/-- what waits on the stack -/
def gFr (J : zI) (T U : Tm) (i j c s : Nat) : Prop := ∀ y, y < c → zEn J (s + (c - 1 - y)) (0, nI (wk (tsp T) y i), 0, nI (wk (tsp U) y j), 0)
theorem gEven (hRM : zRM RM) (hF : 100 ≤ F) (hT : tWF T) (hU : tWF U) (hi : i < tn T) (hj : j < tn U) {x : Nat} (hs : J 89 29 = nI s) (hs2 : s + x ≤ 160) (hx : x = tr T i) (hx2 : x = tr U j) (h93 : ∀ y, y < tn T → J 92 y = nI (tsp T y)) (h94 : ∀ y, y < tn U → J 93 y = nI (tsp U y)) : ∃ J', f_X7_pushesEven F zKm J RM 89 (nI i) (nI j) (nI x) = some J' ∧ zFr s J J' ∧ J' 89 29 = nI (s + x) ∧ gFr J' T U (i + 1) (j + 1) x s := by
  have hr := (hT.2.1 i hi).2.1
  obtain ⟨J', ⟨q1, -⟩, q3, q4, q5⟩ := even5 (F := F) hRM hF hT hU hi hj x F s J hs hs2 (by omega) (by omega) (by omega) h93 h94
  refine ⟨J', ?_, q3, q4, q5⟩
  unfold f_X7_pushesEven
  rw [zbd_s, Int32.sub_eq_add_neg, q1]
end GJ
