/-! put(): the reference writes a node's arguments anew -/
section ZPX
variable {F : Nat} {T : Tm} {RM : zR}
/-- nodes of a forest in the row at o, from node c on -/
def oH (P : Nat → Int32) (o c : Nat) (G : aFo) : Prop := ∀ x, x < qSz G → P (o + 1 + 3 * (c + x)) = nI (qNd G x).1 ∧ P (o + 2 + 3 * (c + x)) = nI (qNd G x).2.1 ∧ P (o + 3 + 3 * (c + x)) = nI (qNd G x).2.2
theorem sorted107 (hRM : zRM RM) (hn : tn T ≤ 32) {b m c k : Nat} (hb : b + m ≤ tn T) (hc : c + m ≤ 32) (hk : k < 8) {k98 : zI → Int32 → Int32 → Int32 → Int32 → Option zI} {x1 x2 : Int32} : ∀ (d y t : Nat) (J : zI), zTm (J 90) 5460 T → J 92 b = nI m → b < tn T → J 99 k = nI b → y + d = m → d < t → ∃ J', f_X7_sorted_107 F zKm RM 89 k98 t J x1 x2 (nI (c + y)) (nI k) (nI y) = k98 J' x1 x2 (nI (c + m)) (nI (k + 1)) ∧ (∀ q, q < 5558 + 3 * (c + y) ∨ 5558 + 3 * (c + m) ≤ q → J' 90 q = J 90 q) ∧ (∀ z, y ≤ z → z < m → J' 90 (5557 + 1 + 3 * (c + z)) = nI (ts T (b + z)) ∧ J' 90 (5557 + 2 + 3 * (c + z)) = nI (tg T (b + z)) ∧ J' 90 (5557 + 3 + 3 * (c + z)) = nI (tr T (b + z))) ∧ ∀ a, a ≠ 90 → J' a = J a := by
  have r0 : RM 89 0 = some 90 := hRM 89 0 (by decide) (by decide) (by decide)
  have r5 : RM 89 5 = some 92 := hRM 89 5 (by decide) (by decide) (by decide)
  have r15 : RM 89 15 = some 99 := hRM 89 15 (by decide) (by decide) (by decide)
  have K93 : zKm 92 = (1, 32) := rfl
  have K100 : zKm 99 = (1, 8) := rfl
  intro d
  induction d with
  | zero =>
    intro y t J h h93 hbn h100 hy ht
    obtain ⟨t, rfl⟩ : ∃ u, t = u + 1 := ⟨t - 1, by omega⟩
    refine ⟨J, ?_, fun _ _ => rfl, fun z h1 h2 => by omega, fun _ _ => rfl⟩
    show g_X7_sorted_107 F zKm RM 89 k98 _ J x1 x2 (nI (c + y)) (nI k) (nI y) = _
    unfold g_X7_sorted_107
    rw [r5, r15, zbd_s, zbd_s, zdr_s (t := 1) (by rw [K100]), zbd_s, zrd_s (by rw [K100]; exact hk) (by rw [K100]; decide), zbd_s, zdr_s (t := 1) (by rw [K93]), zbd_s, h100, zrd_s (by rw [K93]; show b < 32; omega) (by rw [K93]; decide), zbd_s, h93, if_pos (nI_le (by omega) (by omega)), nI_1, show c + y = c + m by omega]
  | succ d ih =>
    intro y t J h h93 hbn h100 hy ht
    obtain ⟨t, rfl⟩ : ∃ u, t = u + 1 := ⟨t - 1, by omega⟩
    have hby : b + y < tn T := by omega
    obtain ⟨J1, hJ1⟩ : ∃ x : zI, x = zup (zup (zup J 90 (5557 + 1 + 3 * (c + y)) (nI (ts T (b + y)))) 90 (5557 + 2 + 3 * (c + y)) (nI (tg T (b + y)))) 90 (5557 + 3 + 3 * (c + y)) (nI (tr T (b + y))) := ⟨_, rfl⟩
    have u1 : ∀ a, a ≠ 90 → J1 a = J a := fun a ha => by rw [hJ1, zup_ne _ _ _ ha, zup_ne _ _ _ ha, zup_ne _ _ _ ha]
    have u91 : ∀ q, J1 90 q = if q = 5557 + 3 + 3 * (c + y) then nI (tr T (b + y)) else if q = 5557 + 2 + 3 * (c + y) then nI (tg T (b + y)) else if q = 5557 + 1 + 3 * (c + y) then nI (ts T (b + y)) else J 90 q := fun q => by rw [hJ1, zup_row, zup_row, zup_row]
    have hT1 : zTm (J1 90) 5460 T := ⟨by rw [u91, if_neg (by omega), if_neg (by omega), if_neg (by omega)]; exact h.1, fun i hi => by
      rw [u91, u91, u91, if_neg (by omega), if_neg (by omega), if_neg (by omega), if_neg (by omega), if_neg (by omega), if_neg (by omega), if_neg (by omega), if_neg (by omega), if_neg (by omega)]
      exact h.2 i hi⟩
    obtain ⟨J', e1, e2, e3, e4⟩ := ih (y + 1) t J1 hT1 (by rw [u1 92 (by decide)]; exact h93) hbn (by rw [u1 99 (by decide)]; exact h100) (by omega) (by omega)
    refine ⟨J', ?_, fun q hq => ?_, fun z z1 z2 => ?_, fun a ha => by rw [e4 a ha, u1 a ha]⟩
    · show g_X7_sorted_107 F zKm RM 89 k98 (f_X7_sorted_107 F zKm RM 89 k98 t) J x1 x2 (nI (c + y)) (nI k) (nI y) = _
      unfold g_X7_sorted_107
      rw [r5, r15, zbd_s, zbd_s, zdr_s (t := 1) (by rw [K100]), zbd_s, zrd_s (by rw [K100]; exact hk) (by rw [K100]; decide), zbd_s, zdr_s (t := 1) (by rw [K93]), zbd_s, h100, zrd_s (by rw [K93]; show b < 32; omega) (by rw [K93]; decide), zbd_s, h93, if_neg (nI_ge (by omega) (by omega)), zbd_s, zdr_s (t := 1) (by rw [K100]), zbd_s, zrd_s (by rw [K100]; exact hk) (by rw [K100]; decide), zbd_s, h100, nI_add, show (5460 : Int32) = nI 5460 from rfl, X7_sort r0 (by decide) h hn hby, zbd_s, zbd_s, zdr_s (t := 1) (by rw [K100]), zbd_s, zrd_s (by rw [K100]; exact hk) (by rw [K100]; decide), zbd_s, h100, nI_add, X7_number r0 (by decide) h hn hby, zbd_s, zbd_s, zdr_s (t := 1) (by rw [K100]), zbd_s, zrd_s (by rw [K100]; exact hk) (by rw [K100]; decide), zbd_s, h100, nI_add, X7_arguments r0 (by decide) h hn hby, zbd_s, show (5557 : Int32) = nI 5557 from rfl, X7_writes hRM (by decide) (by omega), zbd_s, nI_1, nI_1, ← hJ1]
      exact e1
    · rw [e2 q (by omega), u91, if_neg (by omega), if_neg (by omega), if_neg (by omega)]
    · by_cases hz : z = y
      · subst hz
        rw [e2 _ (by omega), e2 _ (by omega), e2 _ (by omega), u91, u91, u91, if_neg (by omega), if_neg (by omega), if_pos rfl, if_neg (by omega), if_pos rfl, if_pos rfl]
        exact ⟨rfl, rfl, rfl⟩
      · exact e3 z (by omega) z2
theorem sorted98 (hF : 100 ≤ F) (hRM : zRM RM) (hn : tn T ≤ 32) {x1 r i : Nat} : ∀ (l2 l1 : List (Nat × Nat × aFo)) (t : Nat) (J : zI), zTm (J 90) 5460 T → (∀ j, j < tn T → J 92 j = nI (tsp T j)) → aRw (J 99) 0 (l1 ++ l2) → (l1 ++ l2).length = r → r ≤ 8 → (∀ v, v ∈ l2 → (∃ d, aTf T (qOne v) v.1 d) ∧ v.1 + 1 + qSz v.2.2 ≤ tn T) → i + 1 + qSz (ofL (l1 ++ l2)) ≤ 32 → oH (J 90) 5557 (i + 1) (ofL l1) → l2.length < t → ∃ J', f_X7_sorted_98 F zKm RM 89 t J (nI x1) (nI r) (nI (i + 1 + qSz (ofL l1))) (nI l1.length) = f_X7_sorted_203 F zKm RM 89 F J' (nI (i + 1 + qSz (ofL (l1 ++ l2)))) (nI (x1 + 1)) ∧ oH (J' 90) 5557 (i + 1) (ofL (l1 ++ l2)) ∧ (∀ q, q < 5557 ∨ 5654 ≤ q → J' 90 q = J 90 q) ∧ ∀ a, a ≠ 90 → J' a = J a := by
  intro l2
  induction l2 with
  | nil =>
    intro l1 t J h h93 hR hl hr hm hz hs ht
    obtain ⟨t, rfl⟩ : ∃ u, t = u + 1 := ⟨t - 1, by omega⟩
    rw [List.append_nil] at hl hR hz ⊢
    refine ⟨J, ?_, hs, fun _ _ => rfl, fun _ _ => rfl⟩
    show g_X7_sorted_98 F zKm RM 89 _ J (nI x1) (nI r) (nI (i + 1 + qSz (ofL l1))) (nI l1.length) = _
    unfold g_X7_sorted_98
    rw [if_pos (nI_le (by omega) (by omega)), nI_1, zbd_s]
  | cons v l2 ih =>
    intro l1 t J h h93 hR hl hr hm hz hs ht
    obtain ⟨t, rfl⟩ : ∃ u, t = u + 1 := ⟨t - 1, by omega⟩
    have ht : l2.length + 1 < t + 1 := ht
    have hl' : l1.length + (l2.length + 1) = r := by rw [List.length_append] at hl; exact hl
    obtain ⟨⟨dv, hv⟩, hvn⟩ := hm v (List.mem_cons.mpr (Or.inl rfl))
    have e100 : J 99 l1.length = nI v.1 := by
      have := hR l1.length v (by rw [List.getElem?_append_right (Nat.le_refl _), Nat.sub_self]; rfl)
      rw [Nat.zero_add] at this
      exact this
    have hsp : tsp T v.1 = 1 + qSz v.2.2 := hv.1.2.2.2.1
    have hV : qSz (qOne v) = 1 + qSz v.2.2 := rfl
    have hzz : i + 1 + qSz (ofL l1) + (1 + qSz v.2.2) ≤ 32 := by
      rw [ofL_app, q_sz_app] at hz
      have : qSz (ofL (v :: l2)) = 1 + qSz v.2.2 + qSz (ofL l2) := rfl
      omega
    obtain ⟨J1, e1, e2, e3, e4⟩ := sorted107 (F := F) (T := T) (b := v.1) (m := 1 + qSz v.2.2) (c := i + 1 + qSz (ofL l1)) (k := l1.length) (k98 := f_X7_sorted_98 F zKm RM 89 t) (x1 := nI x1) (x2 := nI r) hRM hn (by omega) hzz (by omega) (1 + qSz v.2.2) 0 F J h (by rw [h93 _ (by omega), hsp]) (by omega) e100 (by omega) (by omega)
    have e1' : ofL (l1 ++ [v]) = qAp (ofL l1) (qOne v) := by rw [ofL_app]; rfl
    have hs1 : oH (J1 90) 5557 (i + 1) (ofL (l1 ++ [v])) := fun x hx => by
      rw [e1', q_sz_app, hV] at hx
      rw [e1', q_nd_app]
      by_cases c1 : x < qSz (ofL l1)
      · rw [if_pos c1, e2 _ (by omega), e2 _ (by omega), e2 _ (by omega)]
        exact hs x c1
      · obtain ⟨g1, g2, g3⟩ := e3 (x - qSz (ofL l1)) (Nat.zero_le _) (by omega)
        obtain ⟨-, -, b1, b2, b3⟩ := blk hv (z := x - qSz (ofL l1)) (by rw [hV]; omega)
        rw [if_neg c1, ← b1, ← b2, ← b3, ← g1, ← g2, ← g3, show i + 1 + qSz (ofL l1) + (x - qSz (ofL l1)) = i + 1 + x by omega]
        exact ⟨rfl, rfl, rfl⟩
    have hap : l1 ++ v :: l2 = (l1 ++ [v]) ++ l2 := by rw [List.append_assoc]; rfl
    have hT1 : zTm (J1 90) 5460 T := ⟨by rw [e2 _ (by omega)]; exact h.1, fun j hj => by
      rw [e2 _ (by omega), e2 _ (by omega), e2 _ (by omega)]
      exact h.2 j hj⟩
    obtain ⟨J', q1, q2, q3, q4⟩ := ih (l1 ++ [v]) t J1 hT1 (fun j hj => by rw [e4 92 (by decide)]; exact h93 j hj) (by rw [← hap, e4 99 (by decide)]; exact hR) (by rw [← hap]; exact hl) hr (fun u hu => hm u (List.mem_cons.mpr (Or.inr hu))) (by rw [← hap]; exact hz) hs1 (by omega)
    refine ⟨J', ?_, by rw [hap]; exact q2, fun q hq => by rw [q3 q hq, e2 q (by omega)], fun a ha => by rw [q4 a ha, e4 a ha]⟩
    show g_X7_sorted_98 F zKm RM 89 (f_X7_sorted_98 F zKm RM 89 t) J (nI x1) (nI r) (nI (i + 1 + qSz (ofL l1))) (nI l1.length) = _
    unfold g_X7_sorted_98
    rw [if_neg (nI_ge (by omega) (by omega))]
    rw [Nat.add_zero] at e1
    refine Eq.trans e1 ?_
    rw [hap, ← q1, e1', q_sz_app, hV, List.length_append]
    rw [Nat.add_assoc (i + 1)]
    rfl
theorem sorted203 (hRM : zRM RM) {m c : Nat} (hc : c + m ≤ 32) {V : aFo} (hV : qSz V = m) : ∀ (d y t : Nat) (J : zI), oH (J 90) 5557 c V → y + d = m → d < t → ∃ J', f_X7_sorted_203 F zKm RM 89 t J (nI (c + m)) (nI (c + y)) = some J' ∧ (∀ q, q < 5461 + 3 * (c + y) ∨ 5461 + 3 * (c + m) ≤ q → J' 90 q = J 90 q) ∧ (∀ z, y ≤ z → z < m → J' 90 (5460 + 1 + 3 * (c + z)) = nI (qNd V z).1 ∧ J' 90 (5460 + 2 + 3 * (c + z)) = nI (qNd V z).2.1 ∧ J' 90 (5460 + 3 + 3 * (c + z)) = nI (qNd V z).2.2) ∧ ∀ a, a ≠ 90 → J' a = J a := by
  have r0 : RM 89 0 = some 90 := hRM 89 0 (by decide) (by decide) (by decide)
  intro d
  induction d with
  | zero =>
    intro y t J h hy ht
    obtain ⟨t, rfl⟩ : ∃ u, t = u + 1 := ⟨t - 1, by omega⟩
    refine ⟨J, ?_, fun _ _ => rfl, fun z h1 h2 => by omega, fun _ _ => rfl⟩
    show g_X7_sorted_203 F zKm RM 89 _ J (nI (c + m)) (nI (c + y)) = _
    unfold g_X7_sorted_203
    rw [if_pos (nI_le (by omega) (by omega))]
  | succ d ih =>
    intro y t J h hy ht
    obtain ⟨t, rfl⟩ : ∃ u, t = u + 1 := ⟨t - 1, by omega⟩
    obtain ⟨g1, g2, g3⟩ := h y (by omega)
    obtain ⟨J1, hJ1⟩ : ∃ x : zI, x = zup (zup (zup J 90 (5460 + 1 + 3 * (c + y)) (nI (qNd V y).1)) 90 (5460 + 2 + 3 * (c + y)) (nI (qNd V y).2.1)) 90 (5460 + 3 + 3 * (c + y)) (nI (qNd V y).2.2) := ⟨_, rfl⟩
    have u1 : ∀ a, a ≠ 90 → J1 a = J a := fun a ha => by rw [hJ1, zup_ne _ _ _ ha, zup_ne _ _ _ ha, zup_ne _ _ _ ha]
    have u91 : ∀ q, J1 90 q = if q = 5460 + 3 + 3 * (c + y) then nI (qNd V y).2.2 else if q = 5460 + 2 + 3 * (c + y) then nI (qNd V y).2.1 else if q = 5460 + 1 + 3 * (c + y) then nI (qNd V y).1 else J 90 q := fun q => by rw [hJ1, zup_row, zup_row, zup_row]
    have h1 : oH (J1 90) 5557 c V := fun x hx => by
      rw [u91, u91, u91, if_neg (by omega), if_neg (by omega), if_neg (by omega), if_neg (by omega), if_neg (by omega), if_neg (by omega), if_neg (by omega), if_neg (by omega), if_neg (by omega)]
      exact h x hx
    obtain ⟨J', e1, e2, e3, e4⟩ := ih (y + 1) t J1 h1 (by omega) (by omega)
    refine ⟨J', ?_, fun q hq => ?_, fun z z1 z2 => ?_, fun a ha => by rw [e4 a ha, u1 a ha]⟩
    · show g_X7_sorted_203 F zKm RM 89 (f_X7_sorted_203 F zKm RM 89 t) J (nI (c + m)) (nI (c + y)) = _
      have s1 : f_X7_sort F zKm J RM 89 (nI 5557) (nI (c + y)) = some (nI (qNd V y).1) := by
        unfold f_X7_sort
        rw [r0, zbd_s, zd91, zbd_s, nl1, nl3, nI_mul, nI_add, nI_add, zrd_s (by rw [zKm91]; show _ < 5751; omega) (by decide), zbd_s, g1]
      have s2 : f_X7_number F zKm J RM 89 (nI 5557) (nI (c + y)) = some (nI (qNd V y).2.1) := by
        unfold f_X7_number
        rw [r0, zbd_s, zd91, zbd_s, nl2, nl3, nI_mul, nI_add, nI_add, zrd_s (by rw [zKm91]; show _ < 5751; omega) (by decide), zbd_s, g2]
      have s3 : f_X7_arguments F zKm J RM 89 (nI 5557) (nI (c + y)) = some (nI (qNd V y).2.2) := by
        unfold f_X7_arguments
        rw [r0, zbd_s, zd91, zbd_s, nl3, nI_mul, nI_add, nI_add, zrd_s (by rw [zKm91]; show _ < 5751; omega) (by decide), zbd_s, g3]
      unfold g_X7_sorted_203
      rw [if_neg (nI_ge (by omega) (by omega)), show (5557 : Int32) = nI 5557 from rfl, s1, zbd_s, s2, zbd_s, s3, zbd_s, show (5460 : Int32) = nI 5460 from rfl, X7_writes hRM (by decide) (by omega), zbd_s, nI_1, ← hJ1]
      exact e1
    · rw [e2 q (by omega), u91, if_neg (by omega), if_neg (by omega), if_neg (by omega)]
    · by_cases hz : z = y
      · subst hz
        rw [e2 _ (by omega), e2 _ (by omega), e2 _ (by omega), u91, u91, u91, if_neg (by omega), if_neg (by omega), if_pos rfl, if_neg (by omega), if_pos rfl, if_pos rfl]
        exact ⟨rfl, rfl, rfl⟩
      · exact e3 z (by omega) z2
theorem X7_move {J : zI} {G : aFo} {i : Nat} {l : List (Nat × Nat × aFo)} (hF : 100 ≤ F) (hRM : zRM RM) (h32 : qSz G ≤ 32) (hi : i < qSz G) (hr8 : tr (tmF G) i ≤ 8) (h : zTm (J 90) 5460 (tmF G)) (h93 : ∀ j, j < tn (tmF G) → J 92 j = nI (tsp (tmF G) j)) (hR : aRw (J 99) 0 l) (hl : l.length = tr (tmF G) i) (hm : ∀ v, v ∈ l → (∃ d, aTf (tmF G) (qOne v) v.1 d) ∧ v.1 + 1 + qSz v.2.2 ≤ qSz G) (hz : qSz (ofL l) = qSz (qKid i G)) (hln : qLn (ofL l) = qLn (qKid i G)) : ∃ J', f_X7_sorted_98 F zKm RM 89 F J (nI i) (nI (tr (tmF G) i)) (nI (i + 1)) 0 = some J' ∧ zTm (J' 90) 5460 (tmF (qRep (ofL l) i G)) ∧ (∀ q, q < 5460 ∨ 5654 ≤ q → J' 90 q = J 90 q) ∧ ∀ a, a ≠ 90 → J' a = J a := by
  have hk := kid_tf (T := tmF G) G 0 0 i (aTf_tm G) hi
  obtain ⟨J1, e1, e2, e3, e4⟩ := sorted98 (F := F) (T := tmF G) (x1 := i) (r := tr (tmF G) i) (i := i) hF hRM h32 l [] F J h h93 hR hl hr8 hm (by show i + 1 + qSz (ofL l) ≤ 32; omega) (fun x hx => absurd hx (Nat.not_lt_zero _)) (by omega)
  obtain ⟨J2, q1, q2, q3, q4⟩ := sorted203 (F := F) (m := qSz (ofL l)) (c := i + 1) hRM (by omega) rfl (qSz (ofL l)) 0 F J1 e2 (by omega) (by omega)
  obtain ⟨s1, s2⟩ := rep_sz (k' := ofL l) G i hi hz hln
  have rr := rep_at (k' := ofL l) G i hi hz hln
  obtain ⟨t1, t2⟩ := zTm_nd.mp h
  refine ⟨J2, ?_, zTm_nd.mpr ⟨?_, fun x hx => ?_⟩, fun q hq => by rw [q2 q (by omega), e3 q (by omega)], fun a ha => by rw [q4 a ha, e4 a ha]⟩
  · exact e1.trans q1
  · rw [q2 _ (by omega), e3 _ (by omega), t1, s1]
  · rw [s1] at hx
    rw [(rr x).1]
    by_cases hc : i < x ∧ x ≤ i + qSz (ofL l)
    · rw [if_pos hc]
      have := q3 (x - i - 1) (Nat.zero_le _) (by omega)
      rw [show i + 1 + (x - i - 1) = x by omega] at this
      exact this
    · rw [if_neg hc, q2 _ (by omega), q2 _ (by omega), q2 _ (by omega), e3 _ (by omega), e3 _ (by omega), e3 _ (by omega)]
      exact t2 x hx
end ZPX
