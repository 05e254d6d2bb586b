/-! JOINING two nodes, on both sides -/
/-- the class's answer cls for a part of the work, and what the reference's loop does for the same part: s entries of its stack are left -/
def JOut (F : Nat) (K : zK) (RM : zR) (p : Nat) (w : Nat × Nat) (to t a u b : Nat) (T U : Tm) (I : zI) (R : zR) (J : zI) (L : List zNd) (cls : Option (Int32 × zI × zR)) (rest : List (Nat × Bool)) (s : Nat) : Prop := ∃ (v : Int32) (I' : zI) (R' : zR) (J' : zI) (k : Nat), (v = 0 ∨ v = 1) ∧ cls = some (v, I', R') ∧ zJfC p I I' R R' ∧ zJfJ to J J' ∧ L.length + k ≤ 33 ∧ (v = 0 → ∀ f, f_X7_joins_39 F zKm RM 89 (f + k) J (nI a) (nI b) (nI to) = some (0, J')) ∧ (v = 1 → ∃ L' H', (∀ f, f_X7_joins_39 F zKm RM 89 (f + k) J (nI a) (nI b) (nI to) = f_X7_joins_39 F zKm RM 89 f J' (nI a) (nI b) (nI to)) ∧ zJr K I' R' J' p w to t a u b T U L' H' ∧ stL L' = rest ∧ J' 89 29 = nI s ∧ zFrS s J J' ∧ L'.length = L.length + k)
section ZJO
variable {F : Nat} {K : zK} {I I1 : zI} {R R1 : zR} {J J1 : zI} {RM : zR} {p to t a u b : Nat} {w : Nat × Nat} {T U : Tm} {L L1 : List zNd} {H : Nat}
theorem JOut_seq {cls : Option (Int32 × zI × zR)} {rest : List (Nat × Bool)} {s k1 : Nat} (h39 : ∀ f, f_X7_joins_39 F zKm RM 89 (f + k1) J (nI a) (nI b) (nI to) = f_X7_joins_39 F zKm RM 89 f J1 (nI a) (nI b) (nI to)) (hL : L1.length = L.length + k1) (fC : zJfC p I I1 R R1) (fJ : zJfJ to J J1) (fS : zFrS s J J1) (h : JOut F K RM p w to t a u b T U I1 R1 J1 L1 cls rest s) : JOut F K RM p w to t a u b T U I R J L cls rest s := by
  obtain ⟨v, I', R', J', k, h1, h2, h3, h4, h5, h6, h7⟩ := h
  refine ⟨v, I', R', J', k + k1, h1, h2, zJfC_trans fC h3, zJfJ_trans fJ h4, by omega, fun hv f => ?_, fun hv => ?_⟩
  · rw [show f + (k + k1) = (f + k) + k1 by omega, h39]
    exact h6 hv f
  · obtain ⟨L', H', g1, g2, g3, g4, g5, g6⟩ := h7 hv
    refine ⟨L', H', fun f => ?_, g2, g3, g4, fun c c1 c2 x hx => by rw [g5 c c1 c2 x hx, fS c c1 c2 x hx], by omega⟩
    rw [show f + (k + k1) = (f + k) + k1 by omega, h39]
    exact g1 f
theorem JOut_map {cls cls' : Option (Int32 × zI × zR)} {rest : List (Nat × Bool)} {s : Nat} (h : JOut F K RM p w to t a u b T U I R J L cls rest s) (hc : ∀ v I' R', (v = 0 ∨ v = 1) → cls = some (v, I', R') → cls' = some (v, I', R')) : JOut F K RM p w to t a u b T U I R J L cls' rest s := by
  obtain ⟨v, I', R', J', k, h1, h2, h3⟩ := h
  exact ⟨v, I', R', J', k, h1, hc v I' R' h1 h2, h3⟩
/-- one round of the reference's loop -/
theorem joins39 (hRM : zRM RM) (hto : to + 97 ≤ 5751) {s n : Nat} (hs : J 89 29 = nI (s + 1)) (hs2 : s < 1000) (hn : J 90 to = nI n) (hn2 : n ≤ 32) (f : Nat) (x y : Int32) : f_X7_joins_39 F zKm RM 89 (f + 1) J x y (nI to) = if n = 32 then some (0, zup J 89 29 (nI s)) else (zbd2 (f_X7_joinsNext F zKm (zup J 89 29 (nI s)) RM 89 x y (nI to)) fun v9 I10 => if v9 = (0 : Int32) then some ((0 : Int32), I10) else (zbd (zrd zKm I10 90 (nI to)) fun v17 => zbd (zwr zKm I10 90 (nI to) (v17 + (1 : Int32))) fun I18 => f_X7_joins_39 F zKm RM 89 f I18 x y (nI to))) := by
  have r0 : RM 89 0 = some 90 := hRM 89 0 (by decide) (by decide) (by decide)
  show g_X7_joins_39 F zKm RM 89 _ J x y (nI to) = _
  unfold g_X7_joins_39
  rw [hs, if_neg (show ¬ (nI (s + 1) ≤ (0 : Int32)) from nI_nle (by omega) (by omega)), nI_pred, zbd_s, r0, zbd_s, zd91, zbd_s, zrd_s (by rw [zKm91]; show to < 5751; omega) (by decide), zbd_s, zup_nb _ _ _ (by decide), hn]
  by_cases h : n = 32
  · rw [if_pos (show nI n = (32 : Int32) by rw [h]; rfl), if_pos h]
  · rw [if_neg (show ¬ (nI n = (32 : Int32)) from fun e => h (nI_inj (b := 32) (by omega) (by decide) e)), if_neg h]
    simp only [zbd_s, zd91]
theorem zFr_pop (s : Nat) : zFr s J (zup J 89 29 (nI s)) := ⟨fun b b1 _ => zup_ne _ _ _ b1, fun k hk => zup_self_ne _ _ _ hk, fun b b1 b2 k _ => zup_nb _ _ _ (by omega) _⟩
/-- taking a hole, and appending its node on the class's side -/
theorem hole_node (hF : 200 ≤ F) (hRM : zRM RM) (h : zJr K I R J p w to t a u b T U L H) {sH i c j e r : Nat} (hs : sH = 1 ∨ sH = 2 ∨ sH = 3) (hi : i + c ≤ tn T) (hj : j + e ≤ tn U) (h2s : sH = 2 → (i < tn T ∧ ts T i = 0) ∧ j < tn U ∧ ts U j = 0) (hr : r ≤ 8) :
    (f_X0_appendHole F K I R 21 (nI sH) (nI r) (nI i) (nI c) (nI j) (nI e) = some (0, I, R) ∧ f_X7_holeFor F zKm J RM 89 (nI sH) (nI a) (nI i) (nI c) (nI b) (nI j) (nI e) = some (-9, J)) ∨
    ∃ (g H' : Nat) (I1 : zI) (R1 : zR) (J1 : zI), f_X7_holeFor F zKm J RM 89 (nI sH) (nI a) (nI i) (nI c) (nI b) (nI j) (nI e) = some (nI g, J1) ∧ zJr K I1 R1 J1 p w to t a u b T U L H' ∧ g < H' ∧ H' ≤ 10 ∧ I1 34 g = nI sH ∧ zJfC p I I1 R R1 ∧ zJfJ to J J1 ∧ (∀ b, 106 < b → J1 b = J b) ∧ J1 90 = J 90 ∧ J1 89 29 = J 89 29 ∧ (L.length < 32 → f_X0_appendHole F K I R 21 (nI sH) (nI r) (nI i) (nI c) (nI j) (nI e) = some (1, zAp I1 p L.length sH g r, R1)) ∧ (L.length = 32 → f_X0_appendHole F K I R 21 (nI sH) (nI r) (nI i) (nI c) (nI j) (nI e) = some (0, I1, R1)) := by
  have h0 := h
  obtain ⟨hc, ⟨h2, h3⟩, hT, hU, hTb, hPt, hLk, h93, h94⟩ := h
  have hp := hc.2.2.2.2.2.2.1
  have hH := hTb.1
  rcases hole_both (F := F) hF hp hc.1 hRM h2 h3 hT hU hs hi hj h2s hTb (nI r) H 0 F F (Nat.zero_add _) (by omega) (by omega) with ⟨a1, a2⟩ | ⟨g, H', I1, R1, J1, b1, b2, b3, b4, b5, b6, b7, b8, b9, b10, b11, b12, b13⟩
  · exact Or.inl ⟨a1, a2⟩
  · have hr1 := zJr_keep h0 b8 b9 b5 b2 b7 b10 b12
    have hc1 := hr1.1
    have hPt1 := hr1.2.2.2.2.2.1
    have kp := hc1.2.2.1
    have rp := hc1.2.2.2.1
    have r4 := hc1.2.1
    have e135 : f_X0_appendHole_135 F K 21 I1 R1 (nI sH) (nI r) (nI g) = (zbd2 (f_X5_append F K I1 R1 p (nI (sH * 16 + g)) (nI r)) fun v5 I6 => if v5 = 0 ∨ v5 = 1 then some (v5, I6, R1) else none) := by
      unfold f_X0_appendHole_135
      have hg10 := b5.1
      rw [r4, zbd_s, zdr_s (t := 15) (by rw [kp.1]), zbd_s, nI_shl4or _ (show sH < 64 by omega) _ (show g < 16 by omega)]
    refine Or.inr ⟨g, H', I1, R1, J1, b4, hr1, b1, b5.1, b6, b8, b9, b11, b12, b13, fun hl => ?_, fun hl => ?_⟩
    · refine (b3.trans e135).trans ?_
      have hg10 := b5.1
      rw [X5_append_ok kp.2 rp hPt1.2.1 hl (show sH * 16 + g < 64 by omega) hr, zbd2_s, if_pos (Or.inr rfl)]
      unfold zAp
      rw [show (sH * 16 + g) * 16 + r = sH * 256 + g * 16 + r by omega]
    · refine (b3.trans e135).trans ?_
      have hg10 := b5.1
      rw [X5_append_full kp.2 rp (by rw [hPt1.2.1, hl]) (show sH * 16 + g < 64 by omega), zbd2_s, if_pos (Or.inl rfl)]
theorem zWr_to (hto : to + 97 ≤ 5751) (n s g r : Nat) : zWr J to n s g r 90 to = J 90 to := by
  unfold zWr
  rw [zup_self_ne _ _ _ (by omega), zup_self_ne _ _ _ (by omega), zup_self_ne _ _ _ (by omega)]
theorem zWr_ne {c : Nat} (h : c ≠ 90) (n s g r : Nat) : zWr J to n s g r c = J c := by
  unfold zWr
  rw [zup_ne _ _ _ h, zup_ne _ _ _ h, zup_ne _ _ _ h]
/-- a hole without arguments -/
theorem leaf_out (hF : 200 ≤ F) (hRM : zRM RM) (h : zJr K I R J p w to t a u b T U L H) {sH i c j e : Nat} (hs : sH = 1 ∨ sH = 3) (hi : i + c ≤ tn T) (hj : j + e ≤ tn U) {d : Nat} {g : Bool} {rest : List (Nat × Bool)} (hst : stL L = (d, g) :: rest) (hg : sH = 3 ↔ g = true) (hd : d ≤ 7) {s : Nat} (hJ : J 89 29 = nI (s + 1)) (hs2 : s < 1000)
    (hnx : f_X7_joinsNext F zKm (zup J 89 29 (nI s)) RM 89 (nI a) (nI b) (nI to) = (zbd2 (f_X7_holeFor F zKm (zup J 89 29 (nI s)) RM 89 (nI sH) (nI a) (nI i) (nI c) (nI b) (nI j) (nI e)) fun v11 I12 => zbd (zrd zKm I12 90 (nI to)) fun v18 => zbd (f_X7_writes F zKm I12 RM 89 (nI to) v18 (nI sH) v11 (nI 0)) fun I19 => if v11 = (-9 : Int32) then some ((0 : Int32), I19) else some ((1 : Int32), I19))) :
    JOut F K RM p w to t a u b T U I R J L (f_X0_appendHole F K I R 21 (nI sH) (nI 0) (nI i) (nI c) (nI j) (nI e)) rest s := by
  have hto := h.1.2.2.2.2.2.1
  have hPt := h.2.2.2.2.2.1
  obtain ⟨hr0, fJ0⟩ := zJr_stack h (zFr_pop s)
  have hx := joins39 (F := F) hRM hto hJ hs2 hPt.2.2.1 hPt.1
  have fS0 : zFrS s J (zup J 89 29 (nI s)) := fun c c1 c2 x _ => zup_nb _ _ _ (by omega) _
  have e91 : zup J 89 29 (nI s) 90 = J 90 := zup_ne _ _ _ (by decide)
  rcases hole_node (F := F) hF hRM hr0 (show sH = 1 ∨ sH = 2 ∨ sH = 3 by omega) hi hj (fun h => by omega) (show 0 ≤ 8 by decide) with ⟨a1, a2⟩ | ⟨y, H', I1, R1, J1, b1, b2, b3, b3', b4, b5, b6, b7, b8, b9, b10, b11⟩
  · by_cases hl : L.length = 32
    · refine ⟨0, I, R, zup J 89 29 (nI s), 1, Or.inl rfl, a1, zJfC_refl _ _ _, fJ0, by omega, fun _ f => ?_, fun e => absurd e (by decide)⟩
      rw [hx, if_pos hl]
    · have hPt1 := hPt.1
      refine ⟨0, I, R, zup (zup (zup (zup J 89 29 (nI s)) 90 (to + 1 + 3 * L.length) (nI sH)) 90 (to + 2 + 3 * L.length) (-9)) 90 (to + 3 + 3 * L.length) (nI 0), 1, Or.inl rfl, a1, zJfC_refl _ _ _, ⟨fun c c1 c2 c3 => ?_, fun k k1 k2 => ?_, fun q hq => ?_⟩, by omega, fun _ f => ?_, fun e => absurd e (by decide)⟩
      · rw [zup_ne _ _ _ c2, zup_ne _ _ _ c2, zup_ne _ _ _ c2, zup_ne _ _ _ c1]
      · rw [zup_nb _ _ _ (by decide), zup_nb _ _ _ (by decide), zup_nb _ _ _ (by decide), zup_self_ne _ _ _ k2]
      · rw [zup_self_ne _ _ _ (by omega), zup_self_ne _ _ _ (by omega), zup_self_ne _ _ _ (by omega), zup_nb _ _ _ (by decide)]
      · rw [hx, if_neg hl, hnx, a2, zbd2_s, zrd_s (by rw [zKm91]; show to < 5751; omega) (by decide), zbd_s, e91, hPt.2.2.1, X7_writes hRM hto (by omega), zbd_s, if_pos rfl, zbd2_s, if_pos rfl]
  · by_cases hl : L.length = 32
    · refine ⟨0, I1, R1, zup J 89 29 (nI s), 1, Or.inl rfl, b11 hl, b5, fJ0, by omega, fun _ f => ?_, fun e => absurd e (by decide)⟩
      rw [hx, if_pos hl]
    · have hPt1 := hPt.1
      obtain ⟨c1, c2, c3⟩ := rel_append (sk := 0) (v := (sH, y, [])) b2 (show L.length < 32 by omega) hst ⟨hg, fun x hx => absurd hx List.not_mem_nil, fun k l x y h1 _ => (by cases h1)⟩ hd ⟨(by show sH ≤ 3; omega), Nat.zero_le _, fun e => by have : sH = 0 := e; omega, fun _ => by show y ≤ 9; omega, fun _ => rfl, fun e => by have : sH = 2 := e; omega⟩ (fun _ => ⟨b3, b4⟩) (zFr_refl 0 _)
      refine ⟨1, zAp I1 p L.length sH y 0, R1, zup (zWr J1 to L.length sH y 0) 90 to (nI (L.length + 1)), 1, Or.inr rfl, b10 (by omega), zJfC_trans b5 c2, zJfJ_trans fJ0 (zJfJ_trans b6 c3), by omega, fun e => absurd e (by decide), fun _ => ⟨L ++ [(sH, y, [])], H', fun f => ?_, c1, by rw [stL_snoc, hst]; rfl, ?_, fun d d1 d2 x hx => ?_, by rw [List.length_append]; rfl⟩⟩
      · have hw : f_X7_writes F zKm J1 RM 89 (nI to) (nI L.length) (nI sH) (nI y) (nI 0) = some (zWr J1 to L.length sH y 0) := X7_writes hRM hto (by omega) _ _ _
        rw [hx, if_neg hl, hnx, b1, zbd2_s, zrd_s (by rw [zKm91]; show to < 5751; omega) (by decide), zbd_s, b8, e91, hPt.2.2.1, hw, zbd_s, if_neg (nim9 (show y < 2 ^ 31 by omega)), zbd2_s, if_neg (by decide), zrd_s (by rw [zKm91]; show to < 5751; omega) (by decide), zbd_s, zWr_to hto, b8, e91, hPt.2.2.1, zwr_s (by rw [zKm91]; show to < 5751; omega) (by decide), zbd_s, nI_1]
      · rw [zup_nb _ _ _ (by decide), zWr_ne (by decide), b9, zup_self]
      · rw [zup_nb _ _ _ (by omega), zWr_ne (by omega), b7 d (by omega)]
        exact fS0 d d1 d2 x hx
end ZJO
