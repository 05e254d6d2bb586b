/-! put(): insertion on both sides -/
/-- the places in a row, from o on -/
def aRw (X : Nat → Int32) (o : Nat) (l : List (Nat × Nat × aFo)) : Prop := ∀ a v, l[a]? = some v → X (o + a) = nI v.1
section ZPV
variable {F : Nat} {K : zK} {R : zR} {p : Nat} {T : Tm} {RM : zR} {S : Nat → Prop}
theorem aRw_put {X X' : Nat → Int32} {l1 l2 : List (Nat × Nat × aFo)} {v : Nat × Nat × aFo} (h1 : aRw X 0 l1) (h2 : aRw X (l1.length + 1) l2) (e1 : X' l1.length = nI v.1) (e2 : ∀ x, x ≠ l1.length → X' x = X x) : aRw X' 0 (l1 ++ v :: l2) := fun a u hu => by
  rw [Nat.zero_add]
  by_cases c1 : a < l1.length
  · rw [List.getElem?_append_left c1] at hu
    have := h1 a u hu
    rw [Nat.zero_add] at this
    rw [e2 a (by omega), this]
  · rw [List.getElem?_append_right (by omega)] at hu
    by_cases c2 : a = l1.length
    · rw [c2, Nat.sub_self, List.getElem?_cons_zero] at hu
      cases hu
      rw [c2, e1]
    · rw [show a - l1.length = (a - l1.length - 1) + 1 by omega, List.getElem?_cons_succ] at hu
      have := h2 _ u hu
      rw [e2 a c2, ← this]
      congr 1
      omega
theorem zTs_row {I I' : zI} (hp : 92 ≤ p) (h : zTs K I R p T S) (hI : ∀ b, 92 ≤ b → I' b = I b) : zTs K I' R p T S := ⟨zTk_row h.1 (hI _ (by omega)) (hI _ (by omega)), fun j hj hs => by rw [hI _ (by omega)]; exact h.2 j hj hs⟩
theorem insert_both (hF : 200 ≤ F) (hRM : zRM RM) (hp : 92 ≤ p) (k15 : K 15 = (13, 0)) (k19 : K 19 = (1, 8)) (r3 : R 15 3 = some 19) (hN : tNc T) (hT : tSh T) {v : Nat × Nat × aFo} (hv : v.1 < tn T) (hvS : S v.1) {k22 : zI → Option Nat → Int32 → Int32 → Int32 → Option zI} {k11 : zI → Int32 → Int32 → Int32 → Option zI} {x4 y y' x1 x2 : Int32} : ∀ (n1 : Nat) (l1 l2 : List (Nat × Nat × aFo)) (t t' : Nat) (I J : zI), l1.length = n1 → n1 ≤ 7 → (∀ u, u ∈ l1 → u.1 < tn T ∧ S u.1) → zTs K I R p T S → zTm (J 90) 5460 T → (∀ j, j < tn T → J 92 j = nI (tsp T j)) → aRw (I 19) 0 l1 → aRw (I 19) (n1 + 1) l2 → aRw (J 99) 0 l1 → aRw (J 99) (n1 + 1) l2 → n1 < t → n1 < t' → ∃ (I' J' : zI) (l' : List (Nat × Nat × aFo)), List.Perm l' (v :: (l1 ++ l2)) ∧ f_X3_orderArguments_33 F K R 15 k22 t I (some p) (nI v.1) x4 y (nI n1) = k22 I' (some p) (nI (v.1 + tsp T v.1)) x4 (y + 1) ∧ f_X7_sorted_31 F zKm RM 89 k11 t' J x1 x2 y' (nI v.1) (nI n1) = k11 J' x1 x2 (y' + 1) ∧ aRw (I' 19) 0 l' ∧ aRw (J' 99) 0 l' ∧ (∀ a, a ≠ 19 → I' a = I a) ∧ ∀ a, a ≠ 99 → J' a = J a := by
  have r15 : RM 89 15 = some 99 := hRM 89 15 (by decide) (by decide) (by decide)
  have K100 : zKm 99 = (1, 8) := rfl
  have hn := hT.2.1
  intro n1
  induction n1 with
  | zero =>
    intro l1 l2 t t' I J hl h7 hm hc hTm h93 a1 a2 b1 b2 ht ht'
    obtain ⟨t, rfl⟩ : ∃ u, t = u + 1 := ⟨t - 1, by omega⟩
    obtain ⟨t', rfl⟩ : ∃ u, t' = u + 1 := ⟨t' - 1, by omega⟩
    obtain rfl : l1 = [] := List.eq_nil_of_length_eq_zero hl
    have hc' : zTs K (zup I 19 0 (nI v.1)) R p T S := zTs_row hp hc (fun b hb => zup_ne _ _ _ (by omega))
    refine ⟨zup I 19 0 (nI v.1), zup J 99 0 (nI v.1), v :: l2, List.Perm.refl _, ?_, ?_, ?_, ?_, fun a ha => zup_ne _ _ _ ha, fun a ha => zup_ne _ _ _ ha⟩
    · show g_X3_orderArguments_33 F K R 15 k22 _ I (some p) (nI v.1) x4 y (nI 0) = _
      unfold g_X3_orderArguments_33 f_X3_orderArguments_77
      rw [if_pos (show nI 0 ≤ (0 : Int32) from by decide), r3, zbd_s, zdr_s (t := 1) (by rw [k19]), zbd_s, zwr_s (by rw [k19]; decide) (by rw [k19]; decide), zbd_s, zdr_s (t := 15) (by rw [hc.1.1]), zbd_s, X5_spanOf_k hc'.1 hn hv, zbd_s, hc'.2 _ hv hvS, nI_add, zbd_s]
    · show g_X7_sorted_31 F zKm RM 89 k11 _ J x1 x2 y' (nI v.1) (nI 0) = _
      unfold g_X7_sorted_31 f_X7_sorted_76
      rw [if_pos (show nI 0 ≤ (0 : Int32) from by decide), r15, zbd_s, zdr_s (t := 1) (by rw [K100]), zbd_s, zwr_s (by rw [K100]; decide) (by rw [K100]; decide), zbd_s]
    · exact aRw_put (l1 := []) (X := I 19) a1 a2 (zup_self _ _ _ _) (fun x hx => zup_self_ne _ _ _ hx)
    · exact aRw_put (l1 := []) (X := J 99) b1 b2 (zup_self _ _ _ _) (fun x hx => zup_self_ne _ _ _ hx)
  | succ n1 ih =>
    intro l1 l2 t t' I J hl h7 hm hc hTm h93 a1 a2 b1 b2 ht ht'
    obtain ⟨t, rfl⟩ : ∃ u, t = u + 1 := ⟨t - 1, by omega⟩
    obtain ⟨t', rfl⟩ : ∃ u, t' = u + 1 := ⟨t' - 1, by omega⟩
    obtain ⟨l0, u, rfl⟩ : ∃ l0 u, l1 = l0 ++ [u] := ⟨l1.dropLast, l1.getLast (by intro e; rw [e] at hl; cases hl), (List.dropLast_concat_getLast _).symm⟩
    have hl0 : l0.length = n1 := by rw [List.length_append] at hl; exact Nat.succ.inj hl
    have hu : u.1 < tn T ∧ S u.1 := hm u (List.mem_append.mpr (Or.inr (List.mem_singleton.mpr rfl)))
    have hgu : (l0 ++ [u])[n1]? = some u := by rw [List.getElem?_append_right (by omega), hl0, Nat.sub_self]; rfl
    have i19 : I 19 n1 = nI u.1 := by have := a1 n1 u hgu; rw [Nat.zero_add] at this; exact this
    have j100 : J 99 n1 = nI u.1 := by have := b1 n1 u hgu; rw [Nat.zero_add] at this; exact this
    obtain ⟨c, r', e1, e2, e3⟩ := order_both (F := F) hF hRM hN hT hc hTm h93 hv hu.1 hvS hu.2
    have gC : f_X3_orderArguments_33 F K R 15 k22 (t + 1) I (some p) (nI v.1) x4 y (nI (n1 + 1)) = if c = true then f_X3_orderArguments_33 F K R 15 k22 t (zup I 19 (n1 + 1) (nI u.1)) (some p) (nI v.1) x4 y (nI n1) else f_X3_orderArguments_77 F K R 15 k22 I (some p) (nI v.1) x4 y (nI (n1 + 1)) := by
      show g_X3_orderArguments_33 F K R 15 k22 (f_X3_orderArguments_33 F K R 15 k22 t) I (some p) (nI v.1) x4 y (nI (n1 + 1)) = _
      unfold g_X3_orderArguments_33
      rw [if_neg (show ¬ nI (n1 + 1) ≤ (0 : Int32) from nI_ge (a := 0) (by omega) (by omega)), r3, zbd_s, zdr_s (t := 1) (by rw [k19]), zbd_s, aPrd (by omega), Nat.add_sub_cancel, zrd_s (by rw [k19]; show n1 < 8; omega) (by rw [k19]; decide), zbd_s, i19, e1, zbd_s]
      cases c with
      | false => rw [if_neg (show ¬ false = true by decide), if_pos rfl, if_neg (show ¬ false = true by decide)]
      | true =>
        rw [if_pos rfl, if_neg (show ¬ (1 : Int32) = 0 by decide), if_pos rfl, zbd_s, zbd_s, zdr_s (t := 1) (by rw [k19]), zbd_s, zrd_s (by rw [k19]; show n1 < 8; omega) (by rw [k19]; decide), zbd_s, zbd_s, i19, zwr_s (by rw [k19]; show n1 + 1 < 8; omega) (by rw [k19]; decide), zbd_s, nI_m1]
    have gM : f_X7_sorted_31 F zKm RM 89 k11 (t' + 1) J x1 x2 y' (nI v.1) (nI (n1 + 1)) = if c = true then f_X7_sorted_31 F zKm RM 89 k11 t' (zup J 99 (n1 + 1) (nI u.1)) x1 x2 y' (nI v.1) (nI n1) else f_X7_sorted_76 F zKm RM 89 k11 J x1 x2 y' (nI v.1) (nI (n1 + 1)) := by
      show g_X7_sorted_31 F zKm RM 89 k11 (f_X7_sorted_31 F zKm RM 89 k11 t') J x1 x2 y' (nI v.1) (nI (n1 + 1)) = _
      unfold g_X7_sorted_31
      rw [if_neg (show ¬ nI (n1 + 1) ≤ (0 : Int32) from nI_ge (a := 0) (by omega) (by omega)), r15, zbd_s, zdr_s (t := 1) (by rw [K100]), zbd_s, aPrd (by omega), Nat.add_sub_cancel, zrd_s (by rw [K100]; show n1 < 8; omega) (by rw [K100]; decide), zbd_s, j100, e2, zbd_s]
      cases c with
      | false => rw [if_pos (e3.mpr rfl), if_neg (show ¬ false = true by decide)]
      | true =>
        rw [if_neg (fun hh => absurd (e3.mp hh) (by decide)), if_pos rfl, zbd_s, zbd_s, zdr_s (t := 1) (by rw [K100]), zbd_s, zrd_s (by rw [K100]; show n1 < 8; omega) (by rw [K100]; decide), zbd_s, zbd_s, j100, zwr_s (by rw [K100]; show n1 + 1 < 8; omega) (by rw [K100]; decide), zbd_s, nI_m1]
    rw [gC, gM]
    cases c with
    | false =>
      rw [if_neg (show ¬ false = true by decide), if_neg (show ¬ false = true by decide)]
      have hc' : zTs K (zup I 19 (n1 + 1) (nI v.1)) R p T S := zTs_row hp hc (fun b hb => zup_ne _ _ _ (by omega))
      refine ⟨zup I 19 (n1 + 1) (nI v.1), zup J 99 (n1 + 1) (nI v.1), (l0 ++ [u]) ++ v :: l2, List.perm_middle, ?_, ?_, ?_, ?_, fun a ha => zup_ne _ _ _ ha, fun a ha => zup_ne _ _ _ ha⟩
      · unfold f_X3_orderArguments_77
        rw [r3, zbd_s, zdr_s (t := 1) (by rw [k19]), zbd_s, zwr_s (by rw [k19]; show n1 + 1 < 8; omega) (by rw [k19]; decide), zbd_s, zdr_s (t := 15) (by rw [hc.1.1]), zbd_s, X5_spanOf_k hc'.1 hn hv, zbd_s, hc'.2 _ hv hvS, nI_add, zbd_s]
      · unfold f_X7_sorted_76
        rw [r15, zbd_s, zdr_s (t := 1) (by rw [K100]), zbd_s, zwr_s (by rw [K100]; show n1 + 1 < 8; omega) (by rw [K100]; decide), zbd_s]
      · exact aRw_put (X := I 19) a1 (by rw [hl]; exact a2) (by rw [hl]; exact zup_self _ _ _ _) (fun x hx => by rw [hl] at hx; exact zup_self_ne _ _ _ hx)
      · exact aRw_put (X := J 99) b1 (by rw [hl]; exact b2) (by rw [hl]; exact zup_self _ _ _ _) (fun x hx => by rw [hl] at hx; exact zup_self_ne _ _ _ hx)
    | true =>
      rw [if_pos rfl, if_pos rfl]
      have sh : ∀ (X : Nat → Int32), aRw X 0 (l0 ++ [u]) → aRw X (n1 + 1 + 1) l2 → ∀ X' : Nat → Int32, X' (n1 + 1) = nI u.1 → (∀ x, x ≠ n1 + 1 → X' x = X x) → aRw X' 0 l0 ∧ aRw X' (n1 + 1) (u :: l2) := fun X h1 h2 X' q1 q2 => by
        refine ⟨fun a w hw => ?_, fun a w hw => ?_⟩
        · have ha : a < l0.length := by
            rcases Nat.lt_or_ge a l0.length with h | h
            · exact h
            · rw [List.getElem?_eq_none h] at hw; cases hw
          rw [q2 _ (by omega)]
          exact h1 a w (by rw [List.getElem?_append_left ha]; exact hw)
        · cases a with
          | zero =>
            rw [List.getElem?_cons_zero] at hw
            cases hw
            exact q1
          | succ a =>
            rw [List.getElem?_cons_succ] at hw
            rw [q2 _ (by omega), show n1 + 1 + (a + 1) = n1 + 1 + 1 + a by omega]
            exact h2 a w hw
      obtain ⟨s1, s2⟩ := sh (I 19) a1 a2 (zup I 19 (n1 + 1) (nI u.1) 19) (zup_self _ _ _ _) (fun x hx => zup_self_ne _ _ _ hx)
      obtain ⟨s3, s4⟩ := sh (J 99) b1 b2 (zup J 99 (n1 + 1) (nI u.1) 99) (zup_self _ _ _ _) (fun x hx => zup_self_ne _ _ _ hx)
      obtain ⟨I', J', l', g1, g2, g3, g4, g5, g6, g7⟩ := ih l0 (u :: l2) t t' (zup I 19 (n1 + 1) (nI u.1)) (zup J 99 (n1 + 1) (nI u.1)) hl0 (by omega) (fun w hw => hm w (List.mem_append.mpr (Or.inl hw))) (zTs_row hp hc (fun b hb => zup_ne _ _ _ (by omega))) (by rw [zup_ne _ _ _ (by decide)]; exact hTm) (fun j hj => by rw [zup_ne _ _ _ (by decide)]; exact h93 j hj) s1 s2 s3 s4 (by omega) (by omega)
      refine ⟨I', J', l', ?_, g2, g3, g4, g5, fun a ha => by rw [g6 a ha, zup_ne _ _ _ ha], fun a ha => by rw [g7 a ha, zup_ne _ _ _ ha]⟩
      rw [List.append_assoc]
      exact g1
theorem order_all (hF : 200 ≤ F) (hRM : zRM RM) (hp : 92 ≤ p) (k15 : K 15 = (13, 0)) (k19 : K 19 = (1, 8)) (r3 : R 15 3 = some 19) (hT : tWF T) {i : Nat} (hi : i < tn T) : ∀ (r : aFo) (b d y t t' : Nat) (l : List (Nat × Nat × aFo)) (I J : zI), aTf T r b d → b + qSz r ≤ tn T → l.length = y → y + qLn r = tr T i → b = wk (tsp T) y (i + 1) → (∀ u, u ∈ rtL r b → S u.1) → (∀ u, u ∈ l → u.1 < tn T ∧ S u.1) → zTs K I R p T S → zTm (J 90) 5460 T → (∀ j, j < tn T → J 92 j = nI (tsp T j)) → aRw (I 19) 0 l → aRw (J 99) 0 l → qLn r < t → qLn r < t' → ∃ (I' J' : zI) (l' : List (Nat × Nat × aFo)), List.Perm l' (l ++ rtL r b) ∧ f_X3_orderArguments_22 F K R 15 t I (some p) (nI b) (nI (tr T i)) (nI y) = some I' ∧ f_X7_sorted_11 F zKm RM 89 t' J (nI i) (nI (tr T i)) (nI y) = f_X7_sorted_98 F zKm RM 89 F J' (nI i) (nI (tr T i)) (nI (i + 1)) 0 ∧ aRw (I' 19) 0 l' ∧ aRw (J' 99) 0 l' ∧ (∀ a, a ≠ 19 → I' a = I a) ∧ ∀ a, a ≠ 99 → J' a = J a := by
  have r5 : RM 89 5 = some 92 := hRM 89 5 (by decide) (by decide) (by decide)
  have hr8 := (hT.2.1 i hi).2.1
  intro r
  induction r with
  | leaf _ =>
    intro b d y t t' l I J hf hb hl hy hwk hrS hm hc hTm h93 a1 a2 ht ht'
    obtain ⟨t, rfl⟩ : ∃ u, t = u + 1 := ⟨t - 1, by omega⟩
    obtain ⟨t', rfl⟩ : ∃ u, t' = u + 1 := ⟨t' - 1, by omega⟩
    have hy : y + 0 = tr T i := hy
    refine ⟨I, J, l, by rw [rtL, List.append_nil], ?_, ?_, a1, a2, fun _ _ => rfl, fun _ _ => rfl⟩
    · show g_X3_orderArguments_22 F K R 15 _ I (some p) (nI b) (nI (tr T i)) (nI y) = _
      unfold g_X3_orderArguments_22
      rw [if_pos (nI_le (by omega) (by omega))]
    · show g_X7_sorted_11 F zKm RM 89 _ J (nI i) (nI (tr T i)) (nI y) = _
      unfold g_X7_sorted_11
      rw [if_pos (nI_le (by omega) (by omega)), nI_1, zbd_s]
  | branch w k r _ ih =>
    intro b d y t t' l I J hf hb hl hy hwk hrS hm hc hTm h93 a1 a2 ht ht'
    obtain ⟨t, rfl⟩ : ∃ u, t = u + 1 := ⟨t - 1, by omega⟩
    obtain ⟨t', rfl⟩ : ∃ u, t' = u + 1 := ⟨t' - 1, by omega⟩
    have hy : y + (1 + qLn r) = tr T i := hy
    have ht : 1 + qLn r < t + 1 := ht
    have ht' : 1 + qLn r < t' + 1 := ht'
    have hb : b + (1 + qSz k + qSz r) ≤ tn T := hb
    have hbn : b < tn T := by omega
    have f4 := hf.1.2.2.2.1
    obtain ⟨I1, J1, l1, p1, p2, p3, p4, p5, p6, p7⟩ := insert_both (F := F) (v := (b, w, k)) (k22 := f_X3_orderArguments_22 F K R 15 t) (k11 := f_X7_sorted_11 F zKm RM 89 t') (x4 := nI (tr T i)) (y := nI y) (y' := nI y) (x1 := nI i) (x2 := nI (tr T i)) hF hRM hp k15 k19 r3 (tNd_c hT.2.1) hT.1 hbn (hrS (b, w, k) (by rw [rtL]; exact List.mem_cons.mpr (Or.inl rfl))) y l [] F F I J hl (by omega) hm hc hTm h93 a1 (fun a v hv => by rw [List.getElem?_nil] at hv; cases hv) a2 (fun a v hv => by rw [List.getElem?_nil] at hv; cases hv) (by omega) (by omega)
    rw [List.append_nil] at p1
    have hl1 : l1.length = y + 1 := by rw [p1.length_eq, List.length_cons, hl]
    obtain ⟨I2, J2, l2, q1, q2, q3, q4, q5, q6, q7⟩ := ih (b + 1 + qSz k) d (y + 1) t t' l1 I1 J1 hf.2.2 (by omega) hl1 (by omega) (by rw [wk_succ, ← hwk, f4]; omega) (fun u hu => hrS u (by rw [rtL]; exact List.mem_cons.mpr (Or.inr hu))) (fun u hu => by
      rcases List.mem_cons.mp (p1.mem_iff.mp hu) with e | e
      · rw [e]; exact ⟨hbn, hrS (b, w, k) (by rw [rtL]; exact List.mem_cons.mpr (Or.inl rfl))⟩
      · exact hm u e) (zTs_row hp hc (fun a ha => p6 a (by omega))) (by rw [p7 90 (by decide)]; exact hTm) (fun j hj => by rw [p7 92 (by decide)]; exact h93 j hj) p4 p5 (by omega) (by omega)
    refine ⟨I2, J2, l2, ?_, ?_, ?_, q4, q5, fun a ha => by rw [q6 a ha, p6 a ha], fun a ha => by rw [q7 a ha, p7 a ha]⟩
    · rw [rtL]
      exact q1.trans ((p1.append_right _).trans (List.perm_middle.symm))
    · show g_X3_orderArguments_22 F K R 15 (f_X3_orderArguments_22 F K R 15 t) I (some p) (nI b) (nI (tr T i)) (nI y) = _
      unfold g_X3_orderArguments_22
      rw [if_neg (nI_ge (by omega) (by omega))]
      refine Eq.trans p2 ?_
      show f_X3_orderArguments_22 F K R 15 t I1 (some p) (nI (b + tsp T b)) (nI (tr T i)) (nI y + 1) = _
      rw [nI_1, f4, show b + (1 + qSz k) = b + 1 + qSz k by omega]
      exact q2
    · show g_X7_sorted_11 F zKm RM 89 (f_X7_sorted_11 F zKm RM 89 t') J (nI i) (nI (tr T i)) (nI y) = _
      unfold g_X7_sorted_11
      rw [if_neg (nI_ge (by omega) (by omega)), r5, zbd_s, X7_child (w := 92) rfl hT (by omega) h93 (i := i) (m := y) (by omega) (fun k hk => (tc_lt hT.1 hi (by omega)).2.2), zbd_s, ← hwk]
      refine Eq.trans p3 ?_
      rw [nI_1]
      exact q3
end ZPV
