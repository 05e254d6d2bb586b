/-! put(): both sides SORT -/
section ZPY
variable {F : Nat} {K : zK} {R : zR} {p : Nat} {T : Tm} {RM : zR} {hs : Nat → Nat} {S : Nat → Prop}
theorem rep_id : ∀ (G : aFo) (i : Nat), qRep (qKid i G) i G = G := by
  intro G
  induction G with
  | leaf _ => intro i; rfl
  | branch w k r ihk ihr =>
    intro i
    rw [qRep, qKid]
    by_cases h0 : i = 0
    · rw [if_pos h0, if_pos h0]
    · by_cases h1 : i ≤ qSz k
      · rw [if_neg h0, if_neg h0, if_pos h1, if_pos h1, ihk]
      · rw [if_neg h0, if_neg h0, if_neg h1, if_neg h1, ihr]
theorem perm_1 {α : Type} {l l' : List α} (h : List.Perm l l') (hl : l'.length ≤ 1) : l = l' := by
  match l', hl with
  | [], _ => exact h.eq_nil
  | [v], _ => exact List.perm_singleton.mp h
theorem place13s {I : zI} (h : zTs K I R p T S) (hT : tWF T) {i : Nat} (hi : i < tn T) (hSt : ∀ x, x < tr T i → S (tc T i x)) : ∀ (d x t : Nat), x + d = tr T i → d < t → f_X5_sequencePlace_13 F K I R p t (nI (tc T i x)) (nI (tr T i)) (nI x) = some (match sqf T i d x with | none => -1 | some k => nI k) := by
  have hn := hT.1.2.1
  have hr := (hT.2.1 i hi).2.1
  have hN := tNd_c hT.2.1
  intro d
  induction d with
  | zero =>
    intro x t hx ht
    obtain ⟨t, rfl⟩ : ∃ u, t = u + 1 := ⟨t - 1, by omega⟩
    show g_X5_sequencePlace_13 F K I R p _ (nI (tc T i x)) (nI (tr T i)) (nI x) = _
    unfold g_X5_sequencePlace_13
    rw [if_pos (nI_le (by omega) (by omega))]
    rfl
  | succ d ih =>
    intro x t hx ht
    obtain ⟨t, rfl⟩ : ∃ u, t = u + 1 := ⟨t - 1, by omega⟩
    obtain ⟨c1, c2, c3⟩ := tc_lt hT.1 hi (show x < tr T i by omega)
    have e := ih (x + 1) t (by omega) (by omega)
    have h4 := (hT.2.1 _ c3).1
    have hw : tc T i x + tsp T (tc T i x) = tc T i (x + 1) := (wk_succ (tsp T) x (i + 1)).symm
    show g_X5_sequencePlace_13 F K I R p _ (nI (tc T i x)) (nI (tr T i)) (nI x) = _
    unfold g_X5_sequencePlace_13
    rw [if_neg (nI_ge (by omega) (by omega)), X5_sortOf_k h.1 hN hn c3, zbd_s]
    simp only [sqf]
    by_cases h0 : ts T (tc T i x) = 3
    · rw [if_pos h0, if_pos (show nI (ts T (tc T i x)) = 3 by rw [h0]; rfl)]
    · rw [if_neg h0, if_neg (show ¬ (nI (ts T (tc T i x)) = (3 : Int32)) from fun e => h0 (nI_inj (b := 3) (by omega) (by omega) e)), X5_spanOf_k h.1 hn c3, h.2 _ c3 (hSt x (by omega)), zbd_s, zbd_s, nI_add, hw, nI_1]
      exact e
theorem X5_sequencePlace_s {I : zI} (h : zTs K I R p T S) (hT : tWF T) (hF : 100 ≤ F) {i : Nat} (hi : i < tn T) (hSt : ∀ x, x < tr T i → S (tc T i x)) : f_X5_sequencePlace F K I R p (nI i) = some (match sqO T i with | none => -1 | some k => nI k) := by
  have hr := (hT.2.1 i hi).2.1
  unfold f_X5_sequencePlace
  rw [zbd_s, nI_1, X5_argumentsOf_k h.1 (tNd_c hT.2.1) hT.1.2.1 hi, zbd_s]
  exact place13s h hT hi hSt (tr T i) 0 F (by omega) (by omega)
theorem X5_numberOf_k {I : zI} {i : Nat} (h : zTk K I R p T) (hN : tNc T) (hn : tn T ≤ 32) (hi : i < tn T) : f_X5_numberOf F K I R p (nI i) = some (nI (tg T i)) := by
  obtain ⟨h1, h2, h3, h4, h5, h6, h7, h8, h9⟩ := h
  obtain ⟨c1, -, c3, c4, c2⟩ := tcode_ltc hN hi
  unfold f_X5_numberOf
  rw [if_neg (nI_pos (by omega)), h8, if_neg (nI_ge hi (by omega)), h5, zbd_s, zdr_s (t := 1) (by rw [h2]), zbd_s, zrd_s (by rw [h2]; show i < 32; omega) (by rw [h2]; decide), zbd_s, h9 i hi, nI_shr4 _ c1, nI_and15 _ (by omega), c4]
/-- the places of a node's arguments -/
def aAr (G : aFo) (i : Nat) : Nat → Prop := fun j => ∃ v, v ∈ rtL (qKid i G) (i + 1) ∧ v.1 = j
theorem aAr_ts {I : zI} {G : aFo} {m i : Nat} (hc : zTk K I R p (tmF G)) (hd : qSd (I (p + 2)) m G 0) (hi : i < qSz G) (him : i < m) : zTs K I R p (tmF G) (aAr G i) := by
  have hk := kid_tf (T := tmF G) G 0 0 i (aTf_tm G) hi
  have hq := qSd_kid G 0 i hd hi (by omega)
  rw [Nat.zero_add] at hk hq
  refine ⟨hc, fun j _ hj => ?_⟩
  obtain ⟨v, hv, e⟩ := hj
  subst e
  exact qSd_root _ _ _ hq hk.1 v hv
theorem aAr_tc {G : aFo} {i : Nat} (hi : i < qSz G) : ∀ x, x < tr (tmF G) i → aAr G i (tc (tmF G) i x) := fun x hx => by
  have hk := kid_tf (T := tmF G) G 0 0 i (aTf_tm G) hi
  rw [Nat.zero_add] at hk
  exact rtL_wk (T := tmF G) (qKid i G) (i + 1) _ x hk.1 (by rw [← hk.2.1]; exact hx)
/-- what stays while it sorts -/
def aIv (hs : Nat → Nat) (n : Nat) (G : aFo) : Prop := qLn G = 1 ∧ qSz G = n ∧ qW hs G ∧ qS G ∧ qHt G ≤ 8 ∧ qSq G = 0
theorem aIv_wf {n : Nat} {G : aFo} (h : aIv hs n G) (hn : n ≤ 32) : tWF (tmF G) := q_tWF_f h.1 (by rw [h.2.1]; exact hn) h.2.2.1 h.2.2.2.1 h.2.2.2.2.1 h.2.2.2.2.2
theorem sortNode_both (hF : 200 ≤ F) (hRM : zRM RM) (hp : 92 ≤ p) (hS : aSm2 K R) {n i : Nat} {G : aFo} {I J : zI} (hn : n ≤ 32) (hG : aIv hs n G) (hi : i < n) (hc : zTk K I R p (tmF G)) (hd : qSd (I (p + 2)) (i + 1) G 0) (hm : zTm (J 90) 5460 (tmF G)) (h93 : ∀ j, j < tn (tmF G) → J 92 j = nI (tsp (tmF G) j)) : ∃ (I1 I2 J' : zI) (k' : aFo), f_X3_orderArguments F K I R 15 (some p) (nI i) = some I1 ∧ f_X3_moveArguments F K I1 R 15 (some p) (nI i) = some I2 ∧ f_X7_sorted F zKm J RM 89 (nI i) = some J' ∧ aIv hs n (qRep k' i G) ∧ zTk K I2 R p (tmF (qRep k' i G)) ∧ qSd (I2 (p + 2)) i (qRep k' i G) 0 ∧ zTm (J' 90) 5460 (tmF (qRep k' i G)) ∧ (tr (tmF G) i ≤ 1 → qRep k' i G = G) ∧ (∀ a, a ≠ 19 → a ≠ 20 → a ≠ p + 1 → I2 a = I a) ∧ (∀ a, a ≠ 90 → a ≠ 99 → J' a = J a) ∧ ∀ q, q < 5460 ∨ 5654 ≤ q → J' 90 q = J 90 q := by
  have hT := aIv_wf hG hn
  have hnT : tn (tmF G) = n := hG.2.1
  have hiG : i < qSz G := by rw [hG.2.1]; exact hi
  have hN := tNd_c hT.2.1
  have hr8 := (hT.2.1 i hiG).2.1
  have r0 : RM 89 0 = some 90 := hRM 89 0 (by decide) (by decide) (by decide)
  obtain ⟨k15, k19, k20, r3, r4⟩ := id hS
  have hcS := aAr_ts hc hd hiG (Nat.lt_succ_self i)
  have hk := kid_tf (T := tmF G) G 0 0 i (aTf_tm G) hiG
  rw [Nat.zero_add] at hk
  have hlk := q_len_sz (qKid i G)
  have hz32 : qSz G ≤ 32 := by rw [hG.2.1]; exact hn
  obtain ⟨I1, J1, l, p1, p2, p3, p4, p5, p6, p7⟩ := order_all (F := F) (T := tmF G) (S := aAr G i) (I := I) (J := J) hF hRM hp k15 k19 r3 hT hiG (qKid i G) (i + 1) _ 0 F F [] hk.1 (by show i + 1 + qSz (qKid i G) ≤ qSz G; omega) rfl (by rw [Nat.zero_add]; exact hk.2.1.symm) rfl (fun u hu => ⟨u, hu, rfl⟩) (fun u hu => absurd hu (List.not_mem_nil)) hcS hm h93 (fun a v hv => by rw [List.getElem?_nil] at hv; cases hv) (fun a v hv => by rw [List.getElem?_nil] at hv; cases hv) (by omega) (by omega)
  rw [List.nil_append] at p1
  have hl : l.length = tr (tmF G) i := by rw [p1.length_eq, rtL_len, hk.2.1]
  have hmem : ∀ v, v ∈ l → (∃ d, aTf (tmF G) (qOne v) v.1 d) ∧ v.1 + 1 + qSz v.2.2 ≤ qSz G := fun v hv => by
    obtain ⟨m1, m2, m3⟩ := rtL_mem (qKid i G) (i + 1) _ hk.1 v (p1.mem_iff.mp hv)
    exact ⟨⟨_, m1⟩, by omega⟩
  have hmemS : ∀ v, v ∈ l → (∃ d, aTf (tmF G) (qOne v) v.1 d) ∧ v.1 + 1 + qSz v.2.2 ≤ qSz G ∧ aAr G i v.1 := fun v hv => ⟨(hmem v hv).1, (hmem v hv).2, v, p1.mem_iff.mp hv, rfl⟩
  obtain ⟨o1, o2, o3, o4, o5, o6⟩ := ofL_perm (hs := hs) p1.symm
  rw [ofL_rtL] at o1 o2 o3 o4 o5 o6
  obtain ⟨I2, q1, q2, q3⟩ := X3_move (F := F) (by omega) hS hp hz32 hN hiG (zTs_row hp hcS (fun a ha => p6 a (by omega))) p4 hl hmemS o2.symm o1.symm
  have qd := qSd_rep (X := I (p + 2)) (k' := ofL l) G 0 i (by rw [Nat.zero_add]; exact hd) hiG o2.symm o1.symm
  rw [Nat.zero_add] at qd
  obtain ⟨J2, s1, s2, s3, s4⟩ := X7_move (F := F) (J := J1) (by omega) hRM hz32 hiG hr8 (by rw [p7 90 (by decide)]; exact hm) (fun j hj => by rw [p7 92 (by decide)]; exact h93 j hj) p5 hl hmem o2.symm o1.symm
  obtain ⟨w1, w2, w3, w4, w5, w6⟩ := rep_all (hs := hs) (k' := ofL l) G i hiG o2.symm o1.symm o3.symm o4.symm
  refine ⟨I1, I2, J2, ofL l, ?_, q1, ?_, ⟨w2.trans hG.1, w1.trans hG.2.1, w5 (o5 (kid_W G i hG.2.2.1)) hG.2.2.1, w6 (o6 (kid_S G i hG.2.2.2.1)) hG.2.2.2.1, by rw [w4]; exact hG.2.2.2.2.1, w3.trans hG.2.2.2.2.2⟩, q2, by rw [q3 (p + 2) (by omega) (by omega), p6 (p + 2) (by omega)]; exact qd, s2, fun h1 => ?_, fun a a1 a2 a3 => by rw [q3 a a2 a3, p6 a a1], fun a a1 a2 => by rw [s4 a a1, p7 a a2], fun q hq => by rw [s3 q hq, p7 90 (by decide)]⟩
  · unfold f_X3_orderArguments
    rw [nI_1, zbd_s, zdr_s (t := 15) (by rw [hc.1]), zbd_s, X5_argumentsOf_k hc hN hz32 hiG, zbd_s, r3, zbd_s, zdr_s (t := 1) (by rw [k19]), zbd_s, show zln K 19 = nI 8 from by unfold zln; rw [k19]; rfl, if_neg (Int32.not_lt.mpr (nI_le hr8 (by decide))), zbd_s]
    exact p2
  · unfold f_X7_sorted
    rw [show (5460 : Int32) = nI 5460 from rfl, X7_arguments r0 (by decide) hm hz32 hiG, zbd_s]
    exact p3.trans s1
  · have e : l = rtL (qKid i G) (i + 1) := perm_1 p1 (by rw [rtL_len, ← hk.2.1]; exact h1)
    rw [e, ofL_rtL, rep_id]
theorem sort_loop (hF : 200 ≤ F) (hRM : zRM RM) (hp : 92 ≤ p) (hS : aSm2 K R) {n : Nat} (hn : n ≤ 32) {x2 : Int32} : ∀ (m t t' : Nat) (G : aFo) (I J : zI), aIv hs n G → zTk K I R p (tmF G) → qSd (I (p + 2)) m G 0 → zTm (J 90) 5460 (tmF G) → x2 = J 90 779 → m ≤ n → m < t → m < t' → ∃ (G' : aFo) (I' J' : zI), f_X3_arrange_7 F K R 15 t I (some p) x2 (nI m + (-1)) = (zbd (f_X5_settle F K I' R p) fun I5 => some I5) ∧ f_X7_sortsAll_11 F zKm RM 89 t' J (nI m + (-1)) = some J' ∧ aIv hs n G' ∧ zTk K I' R p (tmF G') ∧ zTm (J' 90) 5460 (tmF G') ∧ (∀ a, a ≠ 19 → a ≠ 20 → a ≠ p + 1 → I' a = I a) ∧ (∀ a, a ≠ 90 → a ≠ 92 → a ≠ 99 → J' a = J a) ∧ ∀ q, q < 5460 ∨ 5654 ≤ q → J' 90 q = J 90 q := by
  have r0 : RM 89 0 = some 90 := hRM 89 0 (by decide) (by decide) (by decide)
  have r5 : RM 89 5 = some 92 := hRM 89 5 (by decide) (by decide) (by decide)
  intro m
  induction m with
  | zero =>
    intro t t' G I J hG hc hd hm hx hmn ht ht'
    obtain ⟨t, rfl⟩ : ∃ u, t = u + 1 := ⟨t - 1, by omega⟩
    obtain ⟨t', rfl⟩ : ∃ u, t' = u + 1 := ⟨t' - 1, by omega⟩
    refine ⟨G, I, J, ?_, ?_, hG, hc, hm, fun _ _ _ _ => rfl, fun _ _ _ _ => rfl, fun _ _ => rfl⟩
    · show g_X3_arrange_7 F K R 15 _ I (some p) x2 (nI 0 + (-1)) = _
      unfold g_X3_arrange_7
      rw [if_pos (by decide), zdr_s (t := 15) (by rw [hc.1]), zbd_s]
    · show g_X7_sortsAll_11 F zKm RM 89 _ J (nI 0 + (-1)) = _
      unfold g_X7_sortsAll_11
      rw [if_pos (by decide)]
  | succ i ih =>
    intro t t' G I J hG hc hd hm hx hmn ht ht'
    obtain ⟨t, rfl⟩ : ∃ u, t = u + 1 := ⟨t - 1, by omega⟩
    obtain ⟨t', rfl⟩ : ∃ u, t' = u + 1 := ⟨t' - 1, by omega⟩
    have hT := aIv_wf hG hn
    have hN := tNd_c hT.2.1
    have hz32 : qSz G ≤ 32 := by rw [hG.2.1]; exact hn
    have hi : i < qSz G := by rw [hG.2.1]; omega
    have nd := hT.2.1 i hi
    obtain ⟨J1, hJ1⟩ : ∃ x : zI, x = zrw J 92 0 (tn (tmF G)) (fun j => nI (tsp (tmF G) j)) := ⟨_, rfl⟩
    have u1 : ∀ a, a ≠ 92 → J1 a = J a := fun a ha => by rw [hJ1, zrw_ne _ _ _ _ ha]
    have hm1 : zTm (J1 90) 5460 (tmF G) := by rw [u1 90 (by decide)]; exact hm
    have h93 : ∀ j, j < tn (tmF G) → J1 92 j = nI (tsp (tmF G) j) := fun j hj => by rw [hJ1, zrw_in _ _ _ (Nat.zero_le _) hj]
    obtain ⟨Ia, Ib, J2, k', o1, o2, o3, o4, o5, oD, o6, o7, o8, o9, o10⟩ := sortNode_both (F := F) (J := J1) (n := n) (i := i) hF hRM hp hS hn hG (by omega) hc hd hm1 h93
    have hcS := aAr_ts hc hd hi (Nat.lt_succ_self i)
    have hd' := qSd_mono (Nat.le_succ i) _ _ hd
    have e61 : ∀ I' : zI, f_X3_arrange_61 F K R 15 (f_X3_arrange_7 F K R 15 t) I' (some p) x2 (nI i) = f_X3_arrange_7 F K R 15 t I' (some p) x2 (nI i + (-1)) := fun I' => rfl
    have e75 : ∀ J' : zI, f_X7_sortsAll_75 F zKm RM 89 (f_X7_sortsAll_11 F zKm RM 89 t') J' (nI i) = f_X7_sortsAll_11 F zKm RM 89 t' J' (nI i + (-1)) := fun J' => rfl
    have eC : f_X3_arrange_7 F K R 15 (t + 1) I (some p) x2 (nI (i + 1) + (-1)) = if ts (tmF G) i = 0 ∧ aBt x2 (tg (tmF G) i) ∧ 1 < tr (tmF G) i ∧ sqO (tmF G) i = none then f_X3_arrange_7 F K R 15 t Ib (some p) x2 (nI i + (-1)) else f_X3_arrange_7 F K R 15 t I (some p) x2 (nI i + (-1)) := by
      show g_X3_arrange_7 F K R 15 (f_X3_arrange_7 F K R 15 t) I (some p) x2 (nI (i + 1) + (-1)) = _
      unfold g_X3_arrange_7
      rw [nI_m1, if_neg (show ¬ nI i < (0 : Int32) from nI_pos (by omega)), zdr_s (t := 15) (by rw [hc.1]), zbd_s, X5_sortOf_k hc hN hz32 hi, zbd_s, e61, X5_numberOf_k hc hN hz32 hi, zbd_s, X5_argumentsOf_k hc hN hz32 hi, zbd_s, X5_sequencePlace_s hcS hT (by omega) hi (aAr_tc hi), zbd_s, o1, zbd_s, o2, zbd_s, e61]
      by_cases c1 : ts (tmF G) i = 0
      · rw [if_pos ((ni0 (by omega)).mpr c1)]
        by_cases c2 : aBt x2 (tg (tmF G) i)
        · rw [if_pos c2]
          by_cases c3 : 1 < tr (tmF G) i
          · rw [if_neg (show ¬ nI (tr (tmF G) i) ≤ (1 : Int32) from nI_ge (a := 1) c3 (by omega))]
            cases hq : sqO (tmF G) i with
            | none => rw [if_neg (by decide), if_pos ⟨c1, c2, c3, rfl⟩]
            | some g => rw [if_pos (show (0 : Int32) ≤ nI g from nI_pos' (by have := sqf_lt _ _ _ hq; omega)), if_neg (fun hh => by have := hh.2.2.2; cases this)]
          · rw [if_pos (show nI (tr (tmF G) i) ≤ (1 : Int32) from nI_le (b := 1) (by omega) (by omega)), if_neg (fun hh => c3 hh.2.2.1)]
        · rw [if_neg c2, if_neg (fun hh => c2 hh.2.1)]
      · rw [if_neg (fun e => c1 ((ni0 (by omega)).mp e)), if_neg (fun hh => c1 hh.1)]
    have h779 : J1 90 779 = x2 := by rw [u1 90 (by decide), hx]
    have eJ : f_X7_sortsAll_11 F zKm RM 89 (t' + 1) J (nI (i + 1) + (-1)) = if ts (tmF G) i = 0 ∧ aBt x2 (tg (tmF G) i) ∧ sqO (tmF G) i = none then f_X7_sortsAll_11 F zKm RM 89 t' J2 (nI i + (-1)) else f_X7_sortsAll_11 F zKm RM 89 t' J1 (nI i + (-1)) := by
      show g_X7_sortsAll_11 F zKm RM 89 (f_X7_sortsAll_11 F zKm RM 89 t') J (nI (i + 1) + (-1)) = _
      unfold g_X7_sortsAll_11
      rw [nI_m1, if_neg (show ¬ nI i < (0 : Int32) from nI_pos (by omega)), r5, zbd_s, show (5460 : Int32) = nI 5460 from rfl, X7_counts (w := 92) (by omega) r0 (by decide) rfl (by decide) hT.1 (fun j hj => by have := (hT.2.1 j hj).2.1; omega) hm, zbd_s, ← hJ1, X7_sort r0 (by decide) hm1 hz32 hi, zbd_s, e75, X7_number r0 (by decide) hm1 hz32 hi, zbd_s]
      by_cases c1 : ts (tmF G) i = 0
      · rw [if_pos ((ni0 (by omega)).mpr c1)]
        by_cases c2 : aBt x2 (tg (tmF G) i)
        · rw [show (3 : Int32) = nI 3 from rfl, (X7_isSet (J := J1) hRM (k := 3) (by decide)).1 (by rw [h779]; exact c2), zbd_s, if_neg (by decide), zbd_s, X7_sequenceOf r0 (by decide) hm1 rfl hT (by omega) h93 hi, zbd_s]
          cases hq : sqO (tmF G) i with
          | none => rw [if_pos rfl, o3, zbd_s, e75, if_pos ⟨c1, c2, rfl⟩]
          | some g =>
            have hg8 : g < 9 := by have := sqf_lt _ _ _ hq; omega
            rw [if_neg (show ¬ nI g = (-9 : Int32) from (by decide +revert : ∀ g, g < 9 → ¬ nI g = (-9 : Int32)) g hg8), if_neg (fun hh => by have := hh.2.2; cases this)]
        · rw [show (3 : Int32) = nI 3 from rfl, (X7_isSet (J := J1) hRM (k := 3) (by decide)).2 (by rw [h779]; exact c2), zbd_s, if_pos rfl, if_neg (fun hh => c2 hh.2.1)]
      · rw [if_neg (fun e => c1 ((ni0 (by omega)).mp e)), if_neg (fun hh => c1 hh.1)]
    rw [eC, eJ]
    by_cases hA : ts (tmF G) i = 0 ∧ aBt x2 (tg (tmF G) i) ∧ sqO (tmF G) i = none
    · rw [if_pos hA]
      by_cases h1 : 1 < tr (tmF G) i
      · rw [if_pos ⟨hA.1, hA.2.1, h1, hA.2.2⟩]
        obtain ⟨G', I', J', v1, v2, v3, v4, v5, v6, v7, v8⟩ := ih t t' (qRep k' i G) Ib J2 o4 o5 oD o6 (by rw [o10 779 (by decide)]; exact h779.symm) (by omega) (by omega) (by omega)
        exact ⟨G', I', J', v1, v2, v3, v4, v5, fun a a1 a2 a3 => by rw [v6 a a1 a2 a3, o8 a a1 a2 a3], fun a a1 a2 a3 => by rw [v7 a a1 a2 a3, o9 a a1 a3, u1 a a2], fun q hq => by rw [v8 q hq, o10 q hq, u1 90 (by decide)]⟩
      · rw [if_neg (fun hh => h1 hh.2.2.1)]
        have e := o7 (by omega)
        rw [e] at o6
        obtain ⟨G', I', J', v1, v2, v3, v4, v5, v6, v7, v8⟩ := ih t t' G I J2 hG hc hd' o6 (by rw [o10 779 (by decide)]; exact h779.symm) (by omega) (by omega) (by omega)
        exact ⟨G', I', J', v1, v2, v3, v4, v5, v6, fun a a1 a2 a3 => by rw [v7 a a1 a2 a3, o9 a a1 a3, u1 a a2], fun q hq => by rw [v8 q hq, o10 q hq, u1 90 (by decide)]⟩
    · rw [if_neg hA, if_neg (fun hh => hA ⟨hh.1, hh.2.1, hh.2.2.2⟩)]
      obtain ⟨G', I', J', v1, v2, v3, v4, v5, v6, v7, v8⟩ := ih t t' G I J1 hG hc hd' hm1 h779.symm (by omega) (by omega) (by omega)
      exact ⟨G', I', J', v1, v2, v3, v4, v5, v6, fun a a1 a2 a3 => by rw [v7 a a1 a2 a3, u1 a a2], fun q hq => by rw [v8 q hq, u1 90 (by decide)]⟩
theorem sort_both (hF : 200 ≤ F) (hRM : zRM RM) (hp : 92 ≤ p) (hS : aSm2 K R) {n : Nat} (hn : n ≤ 32) {x2 : Int32} {G : aFo} {I J : zI} (hG : aIv hs n G) (hc : zTc K I R p (tmF G)) (hm : zTm (J 90) 5460 (tmF G)) (hx : x2 = J 90 779) : ∃ (G' : aFo) (I' J' : zI), f_X3_arrange F K I R 15 (some p) x2 = some I' ∧ f_X7_sortsAll F zKm J RM 89 = some J' ∧ tWF (tmF G') ∧ zTc K I' R p (tmF G') ∧ zTm (J' 90) 5460 (tmF G') ∧ (∀ a, a ≠ 19 → a ≠ 20 → a ≠ p + 1 → a ≠ p + 2 → a ≠ p + 3 → I' a = I a) ∧ (∀ a, a ≠ 90 → a ≠ 92 → a ≠ 99 → J' a = J a) ∧ ∀ q, q < 5460 ∨ 5654 ≤ q → J' 90 q = J 90 q := by
  have r0 : RM 89 0 = some 90 := hRM 89 0 (by decide) (by decide) (by decide)
  have hT := aIv_wf hG hn
  have hz : qSz G = n := hG.2.1
  obtain ⟨G', I1, J', v1, v2, v3, v4, v5, v6, v7, v8⟩ := sort_loop (F := F) (hs := hs) hF hRM hp hS hn (x2 := x2) n F F G I J hG (zTk_of hc) (qSd_of (T := tmF G) G 0 0 (aTf_tm G) (fun j _ hj => (hc.2.2.2.2.2.2.2.2 j (by show j < qSz G; omega)).2.1)) hm hx (Nat.le_refl _) (by omega) (by omega)
  have hT' := aIv_wf v3 hn
  obtain ⟨I2, w1, w2, w3⟩ := X5_settle (F := F) (by omega) hT'.1 (tNd_c hT'.2.1) v4 (by
    rw [v6 (p + 3) (by omega) (by omega) (by omega), (hc.2.2.2.2.2.2.2.2 0 (by have := hT.1.1; omega)).2.2, hT.1.2.2.2.2.2.1]
    rfl)
  refine ⟨G', I2, J', ?_, ?_, hT', w2, v5, fun a a1 a2 a3 a4 a5 => by rw [w3 a a4 a5, v6 a a1 a2 a3], v7, v8⟩
  · unfold f_X3_arrange
    rw [zdr_s (t := 15) (by rw [hc.1]), zbd_s, hc.2.2.2.2.2.2.2.1, zbd_s, Int32.sub_eq_add_neg]
    show f_X3_arrange_7 F K R 15 F I (some p) x2 (nI (qSz G) + (-1)) = _
    rw [hz, v1, w1, zbd_s]
  · unfold f_X7_sortsAll
    rw [r0, zbd_s, zd91, zbd_s, show (5460 : Int32) = nI 5460 from rfl, zrd_s (by rw [zKm91]; decide) (by decide), zbd_s, hm.1, zbd_s, Int32.sub_eq_add_neg]
    show f_X7_sortsAll_11 F zKm RM 89 F J (nI (qSz G) + (-1)) = _
    rw [hz]
    exact v2
end ZPY
