/-! put(): the Shaper writes a node's arguments anew -/
section ZPW
variable {F : Nat} {K : zK} {R : zR} {p : Nat} {T : Tm} {RM : zR} {S : Nat → Prop}
/-- a node and its arguments alone -/
abbrev qOne (v : Nat × Nat × aFo) : aFo := .branch v.2.1 v.2.2 (.leaf ())
theorem blk {V : aFo} {b d : Nat} (h : aTf T V b d) {z : Nat} (hz : z < qSz V) : tcode T (b + z) = qCo V z ∧ tsp T (b + z) = qSp V z ∧ ts T (b + z) = (qNd V z).1 ∧ tg T (b + z) = (qNd V z).2.1 ∧ tr T (b + z) = (qNd V z).2.2 := by
  obtain ⟨h1, h2, h3, h4, -⟩ := aTf_at V b d h z hz
  obtain ⟨g1, g2, g3⟩ := q_at_nd V d z
  rw [g1] at h1
  rw [g2] at h2
  rw [g3] at h3
  refine ⟨?_, by rw [h4, at_sp], h1, h2, h3⟩
  unfold tcode qCo
  rw [h1, h2, h3]
/-- the Shaper's rows for moving -/
def aSm2 (K : zK) (R : zR) : Prop := K 15 = (13, 0) ∧ K 19 = (1, 8) ∧ K 20 = (1, 32) ∧ R 15 3 = some 19 ∧ R 15 4 = some 20
theorem move50 (hS : aSm2 K R) (hp : 92 ≤ p) (hn : tn T ≤ 32) {b m c : Nat} (hb : b + m ≤ tn T) (hc : c + m ≤ 32) {k20 : zI → Option Nat → Int32 → Int32 → Int32 → Int32 → Option zI} {x2 x3 x5 : Int32} : ∀ (d y t : Nat) (I : zI), zTk K I R p T → y + d = m → d < t → ∃ I', f_X3_moveArguments_50 F K R 15 k20 t I (some p) x2 x3 (nI (c + y)) x5 (nI (b + m)) (nI (b + y)) = k20 I' (some p) x2 x3 (nI (c + m)) (x5 + 1) ∧ (∀ x, x < c + y ∨ c + m ≤ x → I' 20 x = I 20 x) ∧ (∀ z, y ≤ z → z < m → I' 20 (c + z) = nI (tcode T (b + z))) ∧ ∀ a, a ≠ 20 → I' a = I a := by
  obtain ⟨k15, k19, k20', r3, r4⟩ := hS
  intro d
  induction d with
  | zero =>
    intro y t I h hy ht
    obtain ⟨t, rfl⟩ : ∃ u, t = u + 1 := ⟨t - 1, by omega⟩
    refine ⟨I, ?_, fun _ _ => rfl, fun z h1 h2 => by omega, fun _ _ => rfl⟩
    show g_X3_moveArguments_50 F K R 15 k20 _ I (some p) x2 x3 (nI (c + y)) x5 (nI (b + m)) (nI (b + y)) = _
    unfold g_X3_moveArguments_50 f_X3_moveArguments_96
    rw [if_pos (nI_le (by omega) (by omega)), show c + y = c + m by omega]
  | succ d ih =>
    intro y t I h hy ht
    obtain ⟨t, rfl⟩ : ∃ u, t = u + 1 := ⟨t - 1, by omega⟩
    have h0 := h
    obtain ⟨h1, h2, h3, h4, h5, h6, h7, h8, h9⟩ := h
    have hby : b + y < tn T := by omega
    obtain ⟨I1, hI1⟩ : ∃ x : zI, x = zup I 20 (c + y) (nI (tcode T (b + y))) := ⟨_, rfl⟩
    have u1 : ∀ a, a ≠ 20 → I1 a = I a := fun a a1 => by rw [hI1, zup_ne _ _ _ a1]
    have u20 : ∀ x, I1 20 x = if x = c + y then nI (tcode T (b + y)) else I 20 x := fun x => by rw [hI1, zup_row]
    obtain ⟨I', e1, e2, e3, e4⟩ := ih (y + 1) t I1 (zTk_row h0 (u1 _ (by omega)) (u1 _ (by omega))) (by omega) (by omega)
    refine ⟨I', ?_, fun x hx => ?_, fun z z1 z2 => ?_, fun a a1 => by rw [e4 a a1, u1 a a1]⟩
    · show g_X3_moveArguments_50 F K R 15 k20 (f_X3_moveArguments_50 F K R 15 k20 t) I (some p) x2 x3 (nI (c + y)) x5 (nI (b + m)) (nI (b + y)) = _
      unfold g_X3_moveArguments_50
      rw [if_neg (nI_ge (by omega) (by omega)), zdr_s (t := 15) (by rw [h1]), zbd_s, h8, if_neg (nI_ge (by omega) (by omega)), if_neg (show ¬ (32 : Int32) ≤ nI (c + y) from nI_ge (b := 32) (by omega) (by omega)), r4, zbd_s, h5, zbd_s, zdr_s (t := 1) (by rw [h2]), zbd_s, zrd_s (by rw [h2]; show b + y < 32; omega) (by rw [h2]; decide), zbd_s, zdr_s (t := 1) (by rw [k20']), zbd_s, h9 _ hby, zwr_s (by rw [k20']; show c + y < 32; omega) (by rw [k20']; decide), zbd_s, nI_1, nI_1, ← hI1]
      exact e1
    · rw [e2 x (by omega), u20, if_neg (by omega)]
    · by_cases hz : z = y
      · subst hz
        rw [e2 (c + z) (by omega), u20, if_pos rfl]
      · exact e3 z (by omega) z2
/-- the scratch row holds a forest's codes -/
def aSc (I : zI) (G : aFo) : Prop := ∀ x, x < qSz G → I 20 x = nI (qCo G x)
theorem move20 (hF : 100 ≤ F) (hS : aSm2 K R) (hp : 92 ≤ p) (hn : tn T ≤ 32) {x2 : Int32} {r : Nat} : ∀ (l2 l1 : List (Nat × Nat × aFo)) (t : Nat) (I : zI), zTs K I R p T S → aRw (I 19) 0 (l1 ++ l2) → (l1 ++ l2).length = r → r ≤ 8 → (∀ v, v ∈ l2 → (∃ d, aTf T (qOne v) v.1 d) ∧ v.1 + 1 + qSz v.2.2 ≤ tn T ∧ S v.1) → qSz (ofL (l1 ++ l2)) ≤ 32 → aSc I (ofL l1) → l2.length < t → ∃ I', f_X3_moveArguments_20 F K R 15 t I (some p) x2 (nI r) (nI (qSz (ofL l1))) (nI l1.length) = f_X3_moveArguments_105 F K R 15 F I' (some p) x2 (nI (qSz (ofL (l1 ++ l2)))) 0 ∧ aSc I' (ofL (l1 ++ l2)) ∧ ∀ a, a ≠ 20 → I' a = I a := by
  obtain ⟨k15, k19, k20', r3, r4⟩ := id hS
  intro l2
  induction l2 with
  | nil =>
    intro l1 t I h hR hl hr hm hz hs ht
    obtain ⟨t, rfl⟩ : ∃ u, t = u + 1 := ⟨t - 1, by omega⟩
    rw [List.append_nil] at hl hR hz ⊢
    refine ⟨I, ?_, hs, fun _ _ => rfl⟩
    show g_X3_moveArguments_20 F K R 15 _ I (some p) x2 (nI r) (nI (qSz (ofL l1))) (nI l1.length) = _
    unfold g_X3_moveArguments_20
    rw [if_pos (nI_le (by omega) (by omega))]
  | cons v l2 ih =>
    intro l1 t I h hR hl hr hm hz hs ht
    obtain ⟨t, rfl⟩ : ∃ u, t = u + 1 := ⟨t - 1, by omega⟩
    have ht : l2.length + 1 < t + 1 := ht
    have hl' : l1.length + (l2.length + 1) = r := by rw [List.length_append] at hl; exact hl
    obtain ⟨⟨dv, hv⟩, hvn, hvS⟩ := hm v (List.mem_cons.mpr (Or.inl rfl))
    have e19 : I 19 l1.length = nI v.1 := by
      have := hR l1.length v (by rw [List.getElem?_append_right (Nat.le_refl _), Nat.sub_self]; rfl)
      rw [Nat.zero_add] at this
      exact this
    have hsp : tsp T v.1 = 1 + qSz v.2.2 := hv.1.2.2.2.1
    have hV : qSz (qOne v) = 1 + qSz v.2.2 := rfl
    have hzz : qSz (ofL l1) + (1 + qSz v.2.2) ≤ 32 := by
      rw [ofL_app, q_sz_app] at hz
      have : qSz (ofL (v :: l2)) = 1 + qSz v.2.2 + qSz (ofL l2) := rfl
      omega
    obtain ⟨I1, e1, e2, e3, e4⟩ := move50 (F := F) (T := T) (b := v.1) (m := 1 + qSz v.2.2) (c := qSz (ofL l1)) (k20 := f_X3_moveArguments_20 F K R 15 t) (x2 := x2) (x3 := nI r) (x5 := nI l1.length) hS hp hn (by omega) hzz (1 + qSz v.2.2) 0 F I h.1 (by omega) (by omega)
    have e1' : ofL (l1 ++ [v]) = qAp (ofL l1) (qOne v) := by rw [ofL_app]; rfl
    have hs1 : aSc I1 (ofL (l1 ++ [v])) := fun x hx => by
      rw [e1', q_sz_app, hV] at hx
      rw [e1', qCo_app]
      by_cases c1 : x < qSz (ofL l1)
      · rw [if_pos c1, e2 x (by omega)]
        exact hs x c1
      · have g1 := e3 (x - qSz (ofL l1)) (Nat.zero_le _) (by omega)
        obtain ⟨b1, -⟩ := blk hv (z := x - qSz (ofL l1)) (by rw [hV]; omega)
        rw [if_neg c1, ← b1, ← g1, show qSz (ofL l1) + (x - qSz (ofL l1)) = x by omega]
    have hap : l1 ++ v :: l2 = (l1 ++ [v]) ++ l2 := by rw [List.append_assoc]; rfl
    obtain ⟨I', q1, q2, q3⟩ := ih (l1 ++ [v]) t I1 (zTs_row hp h (fun a ha => e4 a (by omega))) (by rw [← hap, e4 19 (by decide)]; exact hR) (by rw [← hap]; exact hl) hr (fun u hu => hm u (List.mem_cons.mpr (Or.inr hu))) (by rw [← hap]; exact hz) hs1 (by omega)
    refine ⟨I', ?_, by rw [hap]; exact q2, fun a a1 => by rw [q3 a a1, e4 a a1]⟩
    show g_X3_moveArguments_20 F K R 15 (f_X3_moveArguments_20 F K R 15 t) I (some p) x2 (nI r) (nI (qSz (ofL l1))) (nI l1.length) = _
    unfold g_X3_moveArguments_20
    rw [if_neg (nI_ge (by omega) (by omega)), r3, zbd_s, zdr_s (t := 1) (by rw [k19]), zbd_s, zrd_s (by rw [k19]; show l1.length < 8; omega) (by rw [k19]; decide), zbd_s, e19, zdr_s (t := 15) (by rw [h.1.1]), zbd_s, X5_spanOf_k h.1 hn (by omega), zbd_s, h.2 _ (by omega) hvS, hsp, nI_add, zbd_s]
    rw [Nat.add_zero, Nat.add_zero] at e1
    rw [e1, nI_1, hap, ← q1, e1', q_sz_app, hV, List.length_append]
    rfl
theorem move105 (hS : aSm2 K R) (hp : 92 ≤ p) (hn : tn T ≤ 32) {i m : Nat} (him : i + 1 + m ≤ tn T) : ∀ (d y t : Nat) (I : zI), K p = (15, 0) → K (p + 1) = (1, 32) → R p 0 = some (p + 1) → I p 3 = nI (tn T) → y + d = m → d < t → ∃ I', f_X3_moveArguments_105 F K R 15 t I (some p) (nI i) (nI m) (nI y) = some I' ∧ (∀ x, x < i + 1 + y ∨ i + 1 + m ≤ x → I' (p + 1) x = I (p + 1) x) ∧ (∀ z, y ≤ z → z < m → I' (p + 1) (i + 1 + z) = I 20 z) ∧ ∀ a, a ≠ p + 1 → I' a = I a := by
  obtain ⟨k15, k19, k20', r3, r4⟩ := id hS
  intro d
  induction d with
  | zero =>
    intro y t I h1 h2 h5 h8 hy ht
    obtain ⟨t, rfl⟩ : ∃ u, t = u + 1 := ⟨t - 1, by omega⟩
    refine ⟨I, ?_, fun _ _ => rfl, fun z h1 h2 => by omega, fun _ _ => rfl⟩
    show g_X3_moveArguments_105 F K R 15 _ I (some p) (nI i) (nI m) (nI y) = _
    unfold g_X3_moveArguments_105
    rw [if_pos (nI_le (by omega) (by omega))]
  | succ d ih =>
    intro y t I h1 h2 h5 h8 hy ht
    obtain ⟨t, rfl⟩ : ∃ u, t = u + 1 := ⟨t - 1, by omega⟩
    obtain ⟨I1, hI1⟩ : ∃ x : zI, x = zup I (p + 1) (i + 1 + y) (I 20 y) := ⟨_, rfl⟩
    have u1 : ∀ a, a ≠ p + 1 → I1 a = I a := fun a a1 => by rw [hI1, zup_ne _ _ _ a1]
    have uA : ∀ x, I1 (p + 1) x = if x = i + 1 + y then I 20 y else I (p + 1) x := fun x => by rw [hI1, zup_row]
    obtain ⟨I', e1, e2, e3, e4⟩ := ih (y + 1) t I1 h1 h2 h5 (by rw [u1 p (by omega)]; exact h8) (by omega) (by omega)
    refine ⟨I', ?_, fun x hx => ?_, fun z z1 z2 => ?_, fun a a1 => by rw [e4 a a1, u1 a a1]⟩
    · show g_X3_moveArguments_105 F K R 15 (f_X3_moveArguments_105 F K R 15 t) I (some p) (nI i) (nI m) (nI y) = _
      unfold g_X3_moveArguments_105
      rw [if_neg (nI_ge (by omega) (by omega)), zdr_s (t := 15) (by rw [h1]), zbd_s, h8, nI_1, nI_add, if_neg (nI_ge (by omega) (by omega)), h5, zbd_s, r4, zbd_s, zdr_s (t := 1) (by rw [k20']), zbd_s, zrd_s (by rw [k20']; show y < 32; omega) (by rw [k20']; decide), zbd_s, zdr_s (t := 1) (by rw [h2]), zbd_s, zwr_s (by rw [h2]; show i + 1 + y < 32; omega) (by rw [h2]; decide), zbd_s, nI_1, ← hI1]
      exact e1
    · rw [e2 x (by omega), uA, if_neg (by omega)]
    · by_cases hz : z = y
      · subst hz
        rw [e2 (i + 1 + z) (by omega), uA, if_pos rfl]
      · rw [e3 z (by omega) z2, u1 20 (by omega)]
theorem X3_move {I : zI} {G : aFo} {i : Nat} {l : List (Nat × Nat × aFo)} (hF : 100 ≤ F) (hS : aSm2 K R) (hp : 92 ≤ p) (h32 : qSz G ≤ 32) (hN : tNc (tmF G)) (hi : i < qSz G) (h : zTs K I R p (tmF G) S) (hR : aRw (I 19) 0 l) (hl : l.length = tr (tmF G) i) (hm : ∀ v, v ∈ l → (∃ d, aTf (tmF G) (qOne v) v.1 d) ∧ v.1 + 1 + qSz v.2.2 ≤ qSz G ∧ S v.1) (hz : qSz (ofL l) = qSz (qKid i G)) (hln : qLn (ofL l) = qLn (qKid i G)) : ∃ I', f_X3_moveArguments F K I R 15 (some p) (nI i) = some I' ∧ zTk K I' R p (tmF (qRep (ofL l) i G)) ∧ ∀ a, a ≠ 20 → a ≠ p + 1 → I' a = I a := by
  have hk := kid_tf (T := tmF G) G 0 0 i (aTf_tm G) hi
  have hr8 := (hN i hi).2.1
  obtain ⟨k15, k19, k20', r3, r4⟩ := id hS
  obtain ⟨I1, e1, e2, e3⟩ := move20 (F := F) (T := tmF G) (S := S) (x2 := nI i) (r := tr (tmF G) i) hF hS hp h32 l [] F I h hR hl hr8 hm (by show qSz (ofL l) ≤ 32; omega) (fun x hx => absurd hx (Nat.not_lt_zero _)) (by omega)
  obtain ⟨h1, h2, h3, h4, h5, h6, h7, h8, h9⟩ := h.1
  obtain ⟨I2, q1, q2, q3, q4⟩ := move105 (F := F) (T := tmF G) (i := i) (m := qSz (ofL l)) hS hp h32 (by show i + 1 + qSz (ofL l) ≤ qSz G; omega) (qSz (ofL l)) 0 F I1 h1 h2 h5 (by rw [e3 p (by omega)]; exact h8) (by omega) (by omega)
  obtain ⟨s1, s2⟩ := rep_sz (k' := ofL l) G i hi hz hln
  have rr := rep_at (k' := ofL l) G i hi hz hln
  have both : ∀ x, x < qSz G → I2 (p + 1) x = nI (qCo (qRep (ofL l) i G) x) := fun x hx => by
    unfold qCo
    rw [(rr x).1]
    by_cases hc : i < x ∧ x ≤ i + qSz (ofL l)
    · rw [if_pos hc]
      have g1 := q3 (x - i - 1) (Nat.zero_le _) (by omega)
      rw [show i + 1 + (x - i - 1) = x by omega] at g1
      rw [g1]
      exact e2 (x - i - 1) (by show x - i - 1 < qSz (ofL l); omega)
    · rw [if_neg hc, q2 x (by omega), e3 _ (by omega), h9 x hx, tcode_co]
      rfl
  refine ⟨I2, ?_, ⟨h1, h2, h3, h4, h5, h6, h7, ?_, fun x hx => ?_⟩, fun a a1 a2 => by rw [q4 a a2, e3 a a1]⟩
  · unfold f_X3_moveArguments
    rw [zdr_s (t := 15) (by rw [h1]), zbd_s, X5_argumentsOf_k h.1 hN h32 hi, zbd_s, r3, zbd_s, zdr_s (t := 1) (by rw [k19]), zbd_s, show zln K 19 = nI 8 from by unfold zln; rw [k19]; rfl, if_neg (Int32.not_lt.mpr (nI_le hr8 (by decide))), zbd_s]
    exact e1.trans q1
  · rw [q4 p (by omega), e3 p (by omega), h8]
    exact congrArg nI s1.symm
  · have hx : x < qSz G := by rw [← s1]; exact hx
    rw [both x hx, tcode_co]
end ZPW
