/-! THE GHOST JOINS: its loop computes jn -/
section GL
variable {F : Nat} {J : zI} {RM : zR} {a b to s i j : Nat} {T U : Tm} {tb tb1 : pTb} {L : List (Nat × Nat)} {hd : Bool}
theorem zFr_jf {s : Nat} {J J' : zI} (to : Nat) (hJ : zFr s J J') : zJfJ to J J' := ⟨fun b b1 b2 b3 => hJ.1 b b1 (by omega), fun k _ hk => hJ.2.1 k hk, fun q _ => by rw [hJ.1 90 (by decide) (by decide)]⟩
theorem zFr_frS {s : Nat} {J J' : zI} (hJ : zFr s J J') : zFrS s J J' := hJ.2.2
theorem zFrS_trans {s : Nat} {J J' J'' : zI} (h : zFrS s J J') (h2 : zFrS s J' J'') : zFrS s J J'' := fun c c1 c2 x hx => by rw [h2 c c1 c2 x hx, h c c1 c2 x hx]
theorem zFrS_le {s s' : Nat} {J J' : zI} (h : zFrS s J J') (hs : s' ≤ s) : zFrS s' J J' := fun c c1 c2 x hx => h c c1 c2 x (by omega)
/-- a node is written and counted, behind it its arguments may wait on the stack -/
theorem gFin (hr : gRw a b to) (hT : tWF T) (hU : tWF U) (h : gJS J a b to T U hd tb L) (hL : L.length < 32) {so g c : Nat} (hg : g < 16) {Jp : zI} (hp : zFr s (zWr J to L.length so g c) Jp) (hp2 : Jp 89 29 = nI (s + c)) (hp3 : gFr Jp T U (i + 1) (j + 1) c s) :
    zrd zKm Jp 90 (nI to) = some (nI L.length) ∧ gJS (zup Jp 90 to (nI (L.length + 1))) a b to T U hd tb (L ++ [(16 * so + g, c)]) ∧ zup Jp 90 to (nI (L.length + 1)) 89 29 = nI (s + c) ∧ gFr (zup Jp 90 to (nI (L.length + 1))) T U (i + 1) (j + 1) c s ∧ zJfJ to J (zup Jp 90 to (nI (L.length + 1))) ∧ zFrS s J (zup Jp 90 to (nI (L.length + 1))) := by
  have hto := hr.2.2.2.1
  obtain ⟨g1, g2, g3⟩ := gRow_app hto h.2.2.2.2.2.1 hL hg hp
  refine ⟨?_, gJS_keep hr hT hU h g2 (gTb_keep h.2.2.2.2.1 (fun c c1 c2 => g3 c (by omega) (by omega) (by omega)) ?_) g1, ?_, fun y hy => ?_, g2, fun c c1 c2 x hx => ?_⟩
  · rw [zrd_s (by rw [zKm91]; show to < 5751; omega) (by decide), hp.1 90 (by decide) (by decide), zWr_to hto, h.2.2.2.2.2.1.1]
  · rw [zup_nb _ _ _ (by decide), hp.2.1 16 (by decide), zWr_ne (by decide)]
  · rw [zup_nb _ _ _ (by decide)]; exact hp2
  · obtain ⟨e1, e2, e3, e4, e5⟩ := hp3 y hy
    exact ⟨by rw [zup_nb _ _ _ (by decide)]; exact e1, by rw [zup_nb _ _ _ (by decide)]; exact e2, by rw [zup_nb _ _ _ (by decide)]; exact e3, by rw [zup_nb _ _ _ (by decide)]; exact e4, by rw [zup_nb _ _ _ (by decide)]; exact e5⟩
  · rw [zup_nb _ _ _ (by omega), hp.2.2 c c1 c2 x hx, zWr_ne (by omega)]
/-- one node of the loop -/
theorem gOne (hF : 200 ≤ F) (hRM : zRM RM) (hr : gRw a b to) (hT : tWF T) (hU : tWF U) (hT3 : tN3 T) (hU3 : tN3 U) {w w' d d' : Nat} {k k' : aFo} (hA : aTf T (pBr w k pNil) i d) (hB : aTf U (pBr w' k' pNil) j d') (hi : i + 1 + qSz k ≤ tn T) (hj : j + 1 + qSz k' ≤ tn U) (h : gJS J a b to T U hd tb L) (hL : L.length < 32) (hs : J 89 29 = nI (s + 1)) (hs2 : s + 9 ≤ 160) (hen : zEn J s (0, nI i, 0, nI j, 0)) :
    (((pRule hd w (qLn k) w' (qLn k') = 1 ∧ pHole tb 1 (pBr w k pNil) (pBr w' k' pNil) i j = none) ∨ (pRule hd w (qLn k) w' (qLn k') = 2 ∧ pHole tb 2 (pBr w pNil pNil) (pBr w' pNil pNil) i j = none)) ∧ ∃ J', (∀ f, f_X7_joins_39 F zKm RM 89 (f + 1) J (nI a) (nI b) (nI to) = some (0, J')) ∧ zJfJ to J J') ∨
    ∃ (v c : Nat) (tb1 : pTb) (J3 : zI), (∀ f, f_X7_joins_39 F zKm RM 89 (f + 1) J (nI a) (nI b) (nI to) = f_X7_joins_39 F zKm RM 89 f J3 (nI a) (nI b) (nI to)) ∧ gJS J3 a b to T U hd tb1 (L ++ [(v, c)]) ∧ J3 89 29 = nI (s + c) ∧ gFr J3 T U (i + 1) (j + 1) c s ∧ zJfJ to J J3 ∧ zFrS s J J3 ∧
      ((pRule hd w (qLn k) w' (qLn k') = 0 ∧ v = w ∧ c = qLn k ∧ tb1 = tb) ∨ (pRule hd w (qLn k) w' (qLn k') = 1 ∧ c = 0 ∧ ∃ g, pHole tb 1 (pBr w k pNil) (pBr w' k' pNil) i j = some (g, tb1) ∧ v = 16 + g) ∨ (pRule hd w (qLn k) w' (qLn k') = 2 ∧ c = qLn k ∧ ∃ g, pHole tb 2 (pBr w pNil pNil) (pBr w' pNil pNil) i j = some (g, tb1) ∧ v = 32 + g)) := by
  have hA0 := hA
  have hB0 := hB
  obtain ⟨⟨a1, a2, a3, a4, a5⟩, hAk, -⟩ := hA
  obtain ⟨⟨b1, b2, b3, b4, b5⟩, hBk, -⟩ := hB
  have hr0 := hr
  obtain ⟨ra, rb, rt, rt2, r5, r6⟩ := hr
  have hi0 : i < tn T := by omega
  have hj0 : j < tn U := by omega
  have tn1 := hT.1.2.1
  have tn2 := hU.1.2.1
  have trT := (hT.2.1 i hi0).2.1
  have trU := (hU.2.1 j hj0).2.1
  have tgT := (hT.2.1 i hi0).2.2.1
  have fJ0 : zJfJ to J (zup J 89 29 (nI s)) := zFr_jf to (zFr_pop s)
  have h0 : gJS (zup J 89 29 (nI s)) a b to T U hd tb L := gJS_keep hr0 hT hU h fJ0 (gTb_keep h.2.2.2.2.1 (fun c c1 c2 => zup_ne _ _ _ (by omega)) (zup_self_ne _ _ _ (by decide))) (gRow_keep h.2.2.2.2.2.1 (zup_ne _ _ _ (by decide)))
  have fS0 : zFrS s J (zup J 89 29 (nI s)) := zFr_frS (zFr_pop s)
  have hx := joins39 (F := F) hRM rt2 hs (by omega) h.2.2.2.2.2.1.1 (by omega)
  have hL32 : ¬ L.length = 32 := by omega
  obtain ⟨j1, j2, j3, j4, j5, j6, j7, j8⟩ := h0
  have h0 : gJS (zup J 89 29 (nI s)) a b to T U hd tb L := ⟨j1, j2, j3, j4, j5, j6, j7, j8⟩
  have e29 : zup J 89 29 (nI s) 89 29 = nI s := zup_self _ _ _ _
  have hen0 : zEn (zup J 89 29 (nI s)) s (0, nI i, 0, nI j, 0) := by
    obtain ⟨e1, e2, e3, e4, e5⟩ := hen
    exact ⟨by rw [zup_nb _ _ _ (by decide)]; exact e1, by rw [zup_nb _ _ _ (by decide)]; exact e2, by rw [zup_nb _ _ _ (by decide)]; exact e3, by rw [zup_nb _ _ _ (by decide)]; exact e4, by rw [zup_nb _ _ _ (by decide)]; exact e5⟩
  have hnx := gNext (F := F) hF hRM ra rb rt2 hT hU j1 j2 hi0 hj0 j3 j4 j6.1 e29 (by omega) hen0 hT3 hU3 j7
  generalize zup J 89 29 (nI s) = J0 at *
  have wT : w < 16 ↔ ts T i = 0 := by omega
  have wU : w' < 16 ↔ ts U j = 0 := by omega
  by_cases c0 : ts T i = 0 ∧ ts U j = 0 ∧ tg T i = tg U j ∧ tr T i = tr U j
  · rw [if_pos c0] at hnx
    obtain ⟨z1, z2, z3, z4⟩ := c0
    have hrl : pRule hd w (qLn k) w' (qLn k') = 0 := by
      unfold pRule
      rw [if_pos ⟨by omega, by omega, by omega, by omega⟩]
    have hw : f_X7_writes F zKm J0 RM 89 (nI to) (nI L.length) (nI 0) (nI (tg T i)) (nI (tr T i)) = some (zWr J0 to L.length 0 (tg T i) (tr T i)) := X7_writes hRM rt2 hL _ _ _
    obtain ⟨J2, p1, p2, p3, p4⟩ := gEven (F := F) (J := zWr J0 to L.length 0 (tg T i) (tr T i)) hRM (by omega) hT hU hi0 hj0 (by rw [zWr_ne (by decide)]; exact e29) (show s + tr T i ≤ 160 by omega) rfl z4 (fun y hy => by rw [zWr_ne (by decide)]; exact j3 y hy) (fun y hy => by rw [zWr_ne (by decide)]; exact j4 y hy)
    obtain ⟨q1, q2, q3, q4, q5, q6⟩ := gFin (i := i) (j := j) hr0 hT hU h0 hL (by omega) p2 p3 p4
    refine Or.inr ⟨w, tr T i, tb, _, fun f => ?_, ?_, q3, q4, zJfJ_trans fJ0 q5, zFrS_trans fS0 q6, Or.inl ⟨hrl, rfl, a3, rfl⟩⟩
    · rw [hx, if_neg hL32, hnx, hw, zbd_s, p1, zbd_s, zbd2_s, if_neg (by decide), q1, zbd_s, zwr_s (by rw [zKm91]; show to < 5751; omega) (by decide), zbd_s, nI_1]
    · rw [show 16 * 0 + tg T i = w by omega] at q2
      exact q2
  · rw [if_neg c0] at hnx
    by_cases c2 : J0 90 776 = 1 ∧ ts T i = 0 ∧ ts U j = 0 ∧ tg T i ≠ tg U j ∧ tr T i = tr U j ∧ 0 < tr T i
    · rw [if_pos c2] at hnx
      obtain ⟨z1, z2, z3, z4, z5, z6⟩ := c2
      have hhd := j8.mp z1
      have hrl : pRule hd w (qLn k) w' (qLn k') = 2 := by
        unfold pRule
        rw [if_neg (fun q => c0 ⟨z2, z3, by omega, z5⟩), if_pos ⟨hhd, by omega, by omega, by omega, by omega, by omega⟩]
      have pX : gPt T 2 (pBr w pNil pNil) i := Or.inr ⟨rfl, hi0, z2, by rw [show w = tg T i by omega]⟩
      have pY : gPt U 2 (pBr w' pNil pNil) j := Or.inr ⟨rfl, hj0, z3, by rw [show w' = tg U j by omega]⟩
      have hh := gHole (F := F) hF hRM ra rb hT hU j1 j2 j5 pX pY to
      rw [show qSz (pBr w pNil pNil) = 1 from rfl, show qSz (pBr w' pNil pNil) = 1 from rfl] at hh
      rcases hh with ⟨m1, m2⟩ | ⟨g, tb1, J1, m1, m2, m3, m4, m5, m6, m7⟩
      · have hw := X7_writes (F := F) (J := J0) hRM rt2 hL (nI 2) (-9) (nI (tr T i))
        obtain ⟨J2, p1, p2, -, -⟩ := gEven (F := F) (J := zup (zup (zup J0 90 (to + 1 + 3 * L.length) (nI 2)) 90 (to + 2 + 3 * L.length) (-9)) 90 (to + 3 + 3 * L.length) (nI (tr T i))) hRM (by omega) hT hU hi0 hj0 (s := s) (by rw [zup_nb _ _ _ (by decide), zup_nb _ _ _ (by decide), zup_nb _ _ _ (by decide)]; exact e29) (show s + tr T i ≤ 160 by omega) rfl z5 (fun y hy => by rw [zup_nb _ _ _ (by decide), zup_nb _ _ _ (by decide), zup_nb _ _ _ (by decide)]; exact j3 y hy) (fun y hy => by rw [zup_nb _ _ _ (by decide), zup_nb _ _ _ (by decide), zup_nb _ _ _ (by decide)]; exact j4 y hy)
        refine Or.inl ⟨Or.inr ⟨hrl, m1⟩, J2, fun f => ?_, zJfJ_trans fJ0 (zJfJ_trans ⟨fun c c1 c2 c3 => ?_, fun k k1 k2 => ?_, fun q hq => ?_⟩ (zFr_jf to p2))⟩
        · rw [hx, if_neg hL32, hnx, m2, zbd2_s, zrd_s (by rw [zKm91]; show to < 5751; omega) (by decide), zbd_s, j6.1, hw, zbd_s, p1, zbd_s, if_pos rfl, zbd2_s, if_pos rfl]
        · rw [zup_ne _ _ _ c2, zup_ne _ _ _ c2, zup_ne _ _ _ c2]
        · rw [zup_nb _ _ _ (by decide), zup_nb _ _ _ (by decide), zup_nb _ _ _ (by decide)]
        · rw [zup_self_ne _ _ _ (by omega), zup_self_ne _ _ _ (by omega), zup_self_ne _ _ _ (by omega)]
      · have hg := (pHole_fin m1).2.1
        have hg2 := m3.1
        have h1 : gJS J1 a b to T U hd tb1 L := gJS_keep hr0 hT hU h0 m4 m3 (gRow_keep j6 m6)
        obtain ⟨k1, k2, k3, k4, k5, k6, k7, k8⟩ := h1
        have hw : f_X7_writes F zKm J1 RM 89 (nI to) (nI L.length) (nI 2) (nI g) (nI (tr T i)) = some (zWr J1 to L.length 2 g (tr T i)) := X7_writes hRM rt2 hL _ _ _
        obtain ⟨J2, p1, p2, p3, p4⟩ := gEven (F := F) (J := zWr J1 to L.length 2 g (tr T i)) hRM (by omega) hT hU hi0 hj0 (by rw [zWr_ne (by decide), m7]; exact e29) (show s + tr T i ≤ 160 by omega) rfl z5 (fun y hy => by rw [zWr_ne (by decide)]; exact k3 y hy) (fun y hy => by rw [zWr_ne (by decide)]; exact k4 y hy)
        obtain ⟨q1, q2, q3, q4, q5, q6⟩ := gFin (i := i) (j := j) hr0 hT hU ⟨k1, k2, k3, k4, k5, k6, k7, k8⟩ hL (show g < 16 by omega) p2 p3 p4
        refine Or.inr ⟨32 + g, tr T i, tb1, _, fun f => ?_, ?_, q3, q4, zJfJ_trans fJ0 (zJfJ_trans m4 q5), zFrS_trans fS0 (zFrS_trans (fun c c1 c2 x hx => by rw [m5 c (by omega)]) q6), Or.inr (Or.inr ⟨hrl, a3, g, m1, rfl⟩)⟩
        · rw [hx, if_neg hL32, hnx, m2, zbd2_s, zrd_s (by rw [zKm91]; show to < 5751; omega) (by decide), zbd_s, m6, j6.1, hw, zbd_s, p1, zbd_s, if_neg (nim9 (show g < 2 ^ 31 by omega)), zbd2_s, if_neg (by decide), q1, zbd_s, zwr_s (by rw [zKm91]; show to < 5751; omega) (by decide), zbd_s, nI_1]
        · rw [show 16 * 2 + g = 32 + g by omega] at q2
          exact q2
    · rw [if_neg c2] at hnx
      have hrl : pRule hd w (qLn k) w' (qLn k') = 1 := by
        unfold pRule
        rw [if_neg (fun q => c0 ⟨by omega, by omega, by omega, by omega⟩), if_neg (fun q => c2 ⟨j8.mpr q.1, by omega, by omega, by omega, by omega, by omega⟩)]
      have pX : gPt T 1 (pBr w k pNil) i := Or.inl ⟨rfl, rfl, by show i + (1 + qSz k + 0) ≤ _; omega, d, hA0⟩
      have pY : gPt U 1 (pBr w' k' pNil) j := Or.inl ⟨rfl, rfl, by show j + (1 + qSz k' + 0) ≤ _; omega, d', hB0⟩
      have hh := gHole (F := F) hF hRM ra rb hT hU j1 j2 j5 pX pY to
      rw [show qSz (pBr w k pNil) = tsp T i from a4.symm, show qSz (pBr w' k' pNil) = tsp U j from b4.symm] at hh
      rcases hh with ⟨m1, m2⟩ | ⟨g, tb1, J1, m1, m2, m3, m4, m5, m6, m7⟩
      · have hw := X7_writes (F := F) (J := J0) hRM rt2 hL (nI 1) (-9) (nI 0)
        refine Or.inl ⟨Or.inl ⟨hrl, m1⟩, zup (zup (zup J0 90 (to + 1 + 3 * L.length) (nI 1)) 90 (to + 2 + 3 * L.length) (-9)) 90 (to + 3 + 3 * L.length) (nI 0), fun f => ?_, zJfJ_trans fJ0 ⟨fun c c1 c2 c3 => ?_, fun k k1 k2 => ?_, fun q hq => ?_⟩⟩
        · rw [hx, if_neg hL32, hnx, m2, zbd2_s, zrd_s (by rw [zKm91]; show to < 5751; omega) (by decide), zbd_s, j6.1, hw, zbd_s, if_pos rfl, zbd2_s, if_pos rfl]
        · rw [zup_ne _ _ _ c2, zup_ne _ _ _ c2, zup_ne _ _ _ c2]
        · rw [zup_nb _ _ _ (by decide), zup_nb _ _ _ (by decide), zup_nb _ _ _ (by decide)]
        · rw [zup_self_ne _ _ _ (by omega), zup_self_ne _ _ _ (by omega), zup_self_ne _ _ _ (by omega)]
      · have hg := (pHole_fin m1).2.1
        have hg2 := m3.1
        have h1 : gJS J1 a b to T U hd tb1 L := gJS_keep hr0 hT hU h0 m4 m3 (gRow_keep j6 m6)
        have hw : f_X7_writes F zKm J1 RM 89 (nI to) (nI L.length) (nI 1) (nI g) (nI 0) = some (zWr J1 to L.length 1 g 0) := X7_writes hRM rt2 hL _ _ _
        obtain ⟨q1, q2, q3, q4, q5, q6⟩ := gFin (i := i) (j := j) (s := s) (c := 0) (so := 1) (g := g) hr0 hT hU h1 hL (show g < 16 by omega) (zFr_refl s _) (by rw [zWr_ne (by decide), m7]; exact e29) (fun y hy => absurd hy (Nat.not_lt_zero _))
        refine Or.inr ⟨16 + g, 0, tb1, _, fun f => ?_, ?_, q3, q4, zJfJ_trans fJ0 (zJfJ_trans m4 q5), zFrS_trans fS0 (zFrS_trans (fun c c1 c2 x hx => by rw [m5 c (by omega)]) q6), Or.inr (Or.inl ⟨hrl, rfl, g, m1, rfl⟩)⟩
        · rw [hx, if_neg hL32, hnx, m2, zbd2_s, zrd_s (by rw [zKm91]; show to < 5751; omega) (by decide), zbd_s, m6, j6.1, hw, zbd_s, if_neg (nim9 (show g < 2 ^ 31 by omega)), zbd2_s, if_neg (by decide), q1, zbd_s, zwr_s (by rw [zKm91]; show to < 5751; omega) (by decide), zbd_s, nI_1]
        · rw [show 16 * 1 + g = 16 + g by omega] at q2
          exact q2
/-- the loop over the nodes of two forests -/
theorem gLoop (hF : 200 ≤ F) (hRM : zRM RM) (hr : gRw a b to) (hT : tWF T) (hU : tWF U) (hT3 : tN3 T) (hU3 : tN3 U) : ∀ (A B : aFo) (i j d d' s : Nat) (tb : pTb) (L : List (Nat × Nat)) (J : zI), aTf T A i d → aTf U B j d' → qLn A = qLn B → i + qSz A ≤ tn T → j + qSz B ≤ tn U → s + qSz A ≤ 100 → L.length + qSz A ≤ 32 → gJS J a b to T U hd tb L → J 89 29 = nI (s + qLn A) → gFr J T U i j (qLn A) s →
    (jn hd A B i j tb = none ∧ ∃ n J', n ≤ qSz A ∧ (∀ f, f_X7_joins_39 F zKm RM 89 (f + n) J (nI a) (nI b) (nI to) = some (0, J')) ∧ zJfJ to J J') ∨
    (∃ P tb' J', jn hd A B i j tb = some (P, tb') ∧ (∀ f, f_X7_joins_39 F zKm RM 89 (f + qSz P) J (nI a) (nI b) (nI to) = f_X7_joins_39 F zKm RM 89 f J' (nI a) (nI b) (nI to)) ∧ gJS J' a b to T U hd tb' (L ++ qLi P) ∧ J' 89 29 = nI s ∧ zJfJ to J J' ∧ zFrS s J J') := by
  intro A
  induction A with
  | leaf _ =>
    intro B i j d d' s tb L J _ _ _ _ _ _ _ h hs _
    exact Or.inr ⟨pNil, tb, J, rfl, fun f => rfl, by show gJS J a b to T U hd tb (L ++ []); rw [List.append_nil]; exact h, hs, zJfJ_refl _ _, fun _ _ _ _ _ => rfl⟩
  | branch w k r ihk ihr =>
    intro B i j d d' s tb L J hA hB hl hi hj hs1 hL h hs hfr
    cases B with
    | leaf _ => rw [qLn, qLn] at hl; omega
    | branch w' k' r' =>
      rw [qLn, qLn] at hl
      rw [qSz] at hi hs1 hL
      rw [qSz] at hj
      rw [qLn] at hs
      have lr := q_len_sz r
      have lk := q_len_sz k
      have a4 := hA.1.2.2.2.1
      have b4 := hB.1.2.2.2.1
      have htop : zEn J (s + qLn r) (0, nI i, 0, nI j, 0) := by
        have := hfr 0 (by rw [qLn]; omega)
        rw [qLn, show s + (1 + qLn r - 1 - 0) = s + qLn r by omega] at this
        exact this
      -- the arguments that wait for the nodes beside
      have hnext : ∀ {J4 : zI}, zFrS (s + qLn r) J J4 → gFr J4 T U (i + 1 + qSz k) (j + 1 + qSz k') (qLn r) s := fun {J4} hS y hy => by
        have := hfr (y + 1) (by rw [qLn]; omega)
        rw [qLn, show s + (1 + qLn r - 1 - (y + 1)) = s + (qLn r - 1 - y) by omega] at this
        rw [show wk (tsp T) (y + 1) i = wk (tsp T) y (i + 1 + qSz k) from by show wk (tsp T) y (i + tsp T i) = _; rw [a4, show i + (1 + qSz k) = i + 1 + qSz k by omega], show wk (tsp U) (y + 1) j = wk (tsp U) y (j + 1 + qSz k') from by show wk (tsp U) y (j + tsp U j) = _; rw [b4, show j + (1 + qSz k') = j + 1 + qSz k' by omega]] at this
        exact zEn_frS this hS (by omega)
      rcases gOne (F := F) (s := s + qLn r) hF hRM hr hT hU hT3 hU3 (k := k) (k' := k') (w := w) (w' := w') (d := d) (d' := d') ⟨hA.1, hA.2.1, True.intro⟩ ⟨hB.1, hB.2.1, True.intro⟩ (by omega) (by omega) h (by omega) (by rw [hs]; congr 1; omega) (by omega) htop with ⟨e, J', e2, e3⟩ | ⟨v, c, tb1, J3, e1, e2, e3, e4, e5, e6, e7⟩
      · refine Or.inl ⟨?_, 1, J', by rw [qSz]; omega, e2, e3⟩
        rw [jn]
        rcases e with ⟨c, c'⟩ | ⟨c, c'⟩
        · rw [if_neg (by omega), if_pos c, c']; rfl
        · rw [if_neg (by omega), if_neg (by omega), c']; rfl
      · -- the arguments of the node (c = 0: none), then the nodes beside
        have beside : ∀ (x : aFo) (t2 : pTb) (J4 : zI), (L ++ [(v, c)] ++ qLi x).length + qSz r ≤ 32 → (∀ f, f_X7_joins_39 F zKm RM 89 (f + (1 + qSz x)) J (nI a) (nI b) (nI to) = f_X7_joins_39 F zKm RM 89 f J4 (nI a) (nI b) (nI to)) → gJS J4 a b to T U hd t2 (L ++ [(v, c)] ++ qLi x) → J4 89 29 = nI (s + qLn r) → zJfJ to J J4 → zFrS (s + qLn r) J J4 → qLn x = c →
            (jn hd r r' (i + 1 + qSz k) (j + 1 + qSz k') t2 = none ∧ ∃ n J', n ≤ 1 + qSz x + qSz r ∧ (∀ f, f_X7_joins_39 F zKm RM 89 (f + n) J (nI a) (nI b) (nI to) = some (0, J')) ∧ zJfJ to J J') ∨
            (∃ y tb' J', jn hd r r' (i + 1 + qSz k) (j + 1 + qSz k') t2 = some (y, tb') ∧ (∀ f, f_X7_joins_39 F zKm RM 89 (f + qSz (pBr v x y)) J (nI a) (nI b) (nI to) = f_X7_joins_39 F zKm RM 89 f J' (nI a) (nI b) (nI to)) ∧ gJS J' a b to T U hd tb' (L ++ qLi (pBr v x y)) ∧ J' 89 29 = nI s ∧ zJfJ to J J' ∧ zFrS s J J') := by
          intro x t2 J4 hlen g1 g2 g3 g4 g5 g6
          rcases ihr r' (i + 1 + qSz k) (j + 1 + qSz k') d d' s t2 _ J4 hA.2.2 hB.2.2 (by omega) (by omega) (by omega) (by omega) hlen g2 g3 (hnext g5) with ⟨m1, n, J', m2, m3, m4⟩ | ⟨y, tb', J', m1, m2, m3, m4, m5, m6⟩
          · refine Or.inl ⟨m1, 1 + qSz x + n, J', by omega, fun f => ?_, zJfJ_trans g4 m4⟩
            rw [show f + (1 + qSz x + n) = f + n + (1 + qSz x) by omega, g1]
            exact m3 f
          · refine Or.inr ⟨y, tb', J', m1, fun f => ?_, ?_, m4, zJfJ_trans g4 m5, zFrS_trans (zFrS_le g5 (by omega)) m6⟩
            · rw [qSz, show f + (1 + qSz x + qSz y) = f + qSz y + (1 + qSz x) by omega, g1]
              exact m2 f
            · rw [qLi, g6, show L ++ (v, c) :: (qLi x ++ qLi y) = L ++ [(v, c)] ++ qLi x ++ qLi y by simp]
              exact m3
        rcases e7 with ⟨c0, rfl, rfl, rfl⟩ | ⟨c1, rfl, g, hg, rfl⟩ | ⟨c2, rfl, g, hg, rfl⟩
        · -- the same symbol
          rcases ihk k' (i + 1) (j + 1) (d + 1) (d' + 1) (s + qLn r) tb1 (L ++ [(v, qLn k)]) J3 hA.2.1 hB.2.1 (pRule_0 c0).2.2 (by omega) (by omega) (by omega) (by rw [List.length_append]; show L.length + 1 + _ ≤ _; omega) e2 e3 e4 with ⟨m1, n, J', m2, m3, m4⟩ | ⟨x, t2, J4, m1, m2, m3, m4, m5, m6⟩
          · refine Or.inl ⟨by rw [jn, if_pos c0, m1]; rfl, 1 + n, J', by rw [qSz]; omega, fun f => ?_, zJfJ_trans e5 m4⟩
            rw [show f + (1 + n) = f + n + 1 by omega, e1]
            exact m3 f
          · have hx := jn_len _ _ _ _ _ _ _ m1
            rcases beside x t2 J4 (by rw [List.length_append, List.length_append, qLi_len]; show L.length + 1 + qSz x + qSz r ≤ 32; omega) (fun f => by rw [show f + (1 + qSz x) = f + qSz x + 1 by omega, e1]; exact m2 f) m3 m4 (zJfJ_trans e5 m5) (zFrS_trans e6 m6) hx.1 with ⟨q1, n, J', q2, q3, q4⟩ | ⟨y, tb', J', q1, q2, q3, q4, q5, q6⟩
            · exact Or.inl ⟨by rw [jn, if_pos c0, m1]; show (jn hd r r' _ _ t2).bind _ = none; rw [q1]; rfl, n, J', by rw [qSz]; omega, q3, q4⟩
            · exact Or.inr ⟨_, tb', J', by rw [jn, if_pos c0, m1]; show (jn hd r r' _ _ t2).bind _ = _; rw [q1]; rfl, q2, q3, q4, q5, q6⟩
        · -- a hole for terms
          rcases beside pNil tb1 J3 (by show (L ++ [(16 + g, 0)] ++ []).length + _ ≤ _; rw [List.append_nil, List.length_append]; show L.length + 1 + _ ≤ _; omega) e1 (by show gJS J3 a b to T U hd tb1 (L ++ [(16 + g, 0)] ++ []); rw [List.append_nil]; exact e2) e3 e5 e6 rfl with ⟨q1, n, J', q2, q3, q4⟩ | ⟨y, tb', J', q1, q2, q3, q4, q5, q6⟩
          · have q2 : n ≤ 1 + 0 + qSz r := q2
            exact Or.inl ⟨by rw [jn, if_neg (by omega), if_pos c1, hg]; show (jn hd r r' _ _ tb1).bind _ = none; rw [q1]; rfl, n, J', by rw [qSz]; omega, q3, q4⟩
          · exact Or.inr ⟨_, tb', J', by rw [jn, if_neg (by omega), if_pos c1, hg]; show (jn hd r r' _ _ tb1).bind _ = _; rw [q1]; rfl, q2, q3, q4, q5, q6⟩
        · -- a hole for heads
          have cc := (pRule_2 c2).2.2.2.2.1
          rcases ihk k' (i + 1) (j + 1) (d + 1) (d' + 1) (s + qLn r) tb1 (L ++ [(32 + g, qLn k)]) J3 hA.2.1 hB.2.1 cc (by omega) (by omega) (by omega) (by rw [List.length_append]; show L.length + 1 + _ ≤ _; omega) e2 e3 e4 with ⟨m1, n, J', m2, m3, m4⟩ | ⟨x, t2, J4, m1, m2, m3, m4, m5, m6⟩
          · refine Or.inl ⟨by rw [jn, if_neg (by omega), if_neg (by omega), hg]; show (jn hd k k' _ _ tb1).bind _ = none; rw [m1]; rfl, 1 + n, J', by rw [qSz]; omega, fun f => ?_, zJfJ_trans e5 m4⟩
            rw [show f + (1 + n) = f + n + 1 by omega, e1]
            exact m3 f
          · have hx := jn_len _ _ _ _ _ _ _ m1
            rcases beside x t2 J4 (by rw [List.length_append, List.length_append, qLi_len]; show L.length + 1 + qSz x + qSz r ≤ 32; omega) (fun f => by rw [show f + (1 + qSz x) = f + qSz x + 1 by omega, e1]; exact m2 f) m3 m4 (zJfJ_trans e5 m5) (zFrS_trans e6 m6) hx.1 with ⟨q1, n, J', q2, q3, q4⟩ | ⟨y, tb', J', q1, q2, q3, q4, q5, q6⟩
            · exact Or.inl ⟨by rw [jn, if_neg (by omega), if_neg (by omega), hg]; show (jn hd k k' _ _ tb1).bind _ = none; rw [m1]; show (jn hd r r' _ _ t2).bind _ = none; rw [q1]; rfl, n, J', by rw [qSz]; omega, q3, q4⟩
            · exact Or.inr ⟨_, tb', J', by rw [jn, if_neg (by omega), if_neg (by omega), hg]; show (jn hd k k' _ _ tb1).bind _ = _; rw [m1]; show (jn hd r r' _ _ t2).bind _ = _; rw [q1]; rfl, q2, q3, q4, q5, q6⟩
end GL
