/-! THE GHOST'S OTHER CALLS: size, told, node, empty, set, undo, put out of range; joinAll and learn -/
section GCB
variable {F : Nat} {J J' : zI} {RM : zR} {S : gSt} {c : Nat → Int32} {H : List (gSt × (Nat → Int32))} {r q o : Nat} {P A : aFo}
theorem g_size (hF : 5000 ≤ F) (hRM : zRM RM) (hb : gBl (J 90) 0 S c) (hh : gHi J H) (hr : r < 8) (hP : S r = some P) {w : Nat} (hw : w < 5) : ∃ J1, f_X7_size F zKm J RM 89 (nI r) (nI w) = some (zsz (tmF P) (nI w), J1) ∧ gBl (J1 90) 0 S c ∧ gHi J1 H := by
  have hR0 : RM 89 0 = some 90 := hRM 89 0 (by decide) (by decide) (by decide)
  have hR5 : RM 89 5 = some 92 := hRM 89 5 (by decide) (by decide) (by decide)
  have hR7 : RM 89 7 = some 94 := hRM 89 7 (by decide) (by decide) (by decide)
  have hR8 : RM 89 8 = some 95 := hRM 89 8 (by decide) (by decide) (by decide)
  obtain ⟨a1, a2, a3⟩ := gBl_some hb hr hP
  obtain ⟨J1, g1, g2⟩ := X7_sizeOf (F := F) (by omega) hR0 hR5 hR7 hR8 (show r < 58 by omega) (gGd_wf a1).1 a2 (nI w)
  have e90 : J1 90 = J 90 := g2 90 (by decide) (by decide) (by decide)
  refine ⟨J1, ?_, by rw [e90]; exact hb, gHi_keep hh (by rw [g2 89 (by decide) (by decide) (by decide)]) (fun q _ _ => by rw [e90])⟩
  unfold f_X7_size
  rw [X7_reg hr, zbd_s, if_neg (by decide), zi_1 (show (0 : Int32) ≤ nI w ∧ nI w ≤ 4 from ⟨nI_pos' (by omega), nI_le (b := 4) (by omega) (by decide)⟩), zbd_s, if_neg (by decide), X7_isEmpty hR0 hr, if_neg a3, zbd_s, if_pos rfl, g1, zbd2_s]
/-- a term without holes has no hole -/
theorem pHF_nd : ∀ G : aFo, pHF G → ∀ i, i < qSz G → (qNd G i).1 = 0 := by
  intro G
  induction G with
  | leaf _ => intro _ i hi; exact absurd hi (Nat.not_lt_zero _)
  | branch w k r ihk ihr =>
    intro h i hi
    rw [qSz] at hi
    obtain ⟨h1, h2, h3⟩ := h
    rw [qNd]
    by_cases c : i = 0
    · rw [if_pos c]; show w / 16 = 0; omega
    · by_cases c2 : i ≤ qSz k
      · rw [if_neg c, if_pos c2]; exact ihk h2 _ (by omega)
      · rw [if_neg c, if_neg c2]; exact ihr h3 _ (by omega)
theorem pHF_hl {G : aFo} (h : pHF G) : ∀ n, n ≤ qSz G → cHl (tmF G) n = 0 := by
  intro n
  induction n with
  | zero => intro _; rfl
  | succ n ih =>
    intro hn
    rw [cHl, if_pos (by rw [q_ts_f]; exact pHF_nd G h n (by omega))]
    exact ih (by omega)
theorem zsz_0 (G : aFo) : zsz (tmF G) (nI 0) = nI (qSz G) := if_pos rfl
theorem zsz_2 {G : aFo} (h : pHF G) : zsz (tmF G) (nI 2) = 0 := by
  unfold zsz
  rw [if_neg (by decide), if_neg (by decide), if_pos (by decide), show cHl (tmF G) (tn (tmF G)) = 0 from pHF_hl h _ (Nat.le_refl _)]
  decide
theorem g_told (hRM : zRM RM) (hb : gBl (J 90) 0 S c) {w : Nat} (hw : w < 4) : f_X7_told F zKm J RM 89 (nI w) = some (c w) := by
  have hR0 : RM 89 0 = some 90 := hRM 89 0 (by decide) (by decide) (by decide)
  have e : f_X7_told_48 F zKm J RM 89 (nI w) = some (c w) := by
    unfold f_X7_told_48
    rw [hR0, zbd_s, zd91, zbd_s, show (776 : Int32) = nI 776 from rfl, nI_add, zrd_s (by rw [zKm91]; show 776 + w < 5751; omega) (by decide), zbd_s, gBl_c hb hw]
  have : w = 0 ∨ w = 1 ∨ w = 2 ∨ w = 3 := by omega
  unfold f_X7_told
  rcases this with rfl | rfl | rfl | rfl
  · rw [if_pos (by decide)]; exact e
  · rw [if_neg (by decide), if_pos (by decide)]; exact e
  · rw [if_neg (by decide), if_neg (by decide), if_pos (by decide)]; exact e
  · rw [if_neg (by decide), if_neg (by decide), if_neg (by decide), if_pos (by decide)]; exact e
theorem g_node_e (hRM : zRM RM) (hb : gBl (J 90) 0 S c) (hr : r < 8) (hP : S r = none) {i w : Nat} (hi : i < 2 ^ 31) (hw : w < 5) : f_X7_node F zKm J RM 89 (nI r) (nI i) (nI w) = some (-2, J) := by
  have hR0 : RM 89 0 = some 90 := hRM 89 0 (by decide) (by decide) (by decide)
  unfold f_X7_node
  rw [X7_reg hr, zbd_s, if_neg (by decide), if_neg (nI_pos hi), zi_1 (show (0 : Int32) ≤ nI w ∧ nI w ≤ 4 from ⟨nI_pos' (by omega), nI_le (b := 4) (by omega) (by decide)⟩), zbd_s, if_neg (by decide), X7_isEmpty hR0 hr, if_pos (gBl_none hb hr hP), zbd_s, if_neg (by decide)]
theorem g_node_n (hRM : zRM RM) (hb : gBl (J 90) 0 S c) (hr : r < 8) (hP : S r = some P) {i w : Nat} (hi : i < 2 ^ 31) (hi2 : qSz P ≤ i) (hw : w < 5) : f_X7_node F zKm J RM 89 (nI r) (nI i) (nI w) = some (-9, J) := by
  have hR0 : RM 89 0 = some 90 := hRM 89 0 (by decide) (by decide) (by decide)
  obtain ⟨a1, a2, a3⟩ := gBl_some hb hr hP
  have e : J 90 (97 * r) = nI (qSz P) := a2.1
  unfold f_X7_node
  rw [X7_reg hr, zbd_s, if_neg (by decide), if_neg (nI_pos hi), zi_1 (show (0 : Int32) ≤ nI w ∧ nI w ≤ 4 from ⟨nI_pos' (by omega), nI_le (b := 4) (by omega) (by decide)⟩), zbd_s, if_neg (by decide), X7_isEmpty hR0 hr, if_neg a3, zbd_s, if_pos rfl, hR0, zbd_s, zd91, zbd_s, nl97, nI_mul, zrd_s (by rw [zKm91]; show 97 * r < 5751; omega) (by decide), zbd_s, e, if_pos (nI_le hi2 hi)]
theorem g_put8 {x : Int32} (h : ¬ (0 ≤ x ∧ x ≤ 7)) : f_X7_put F zKm J RM 89 x = some (-1, J) := by
  unfold f_X7_put
  rw [X7_noreg h, zbd_s, if_pos rfl]
/-- empty() -/
theorem g_empty (hF : 5000 ≤ F) (hRM : zRM RM) (hb : gBl (J 90) 0 S c) (hh : gHi J H) (hl : H.length ≤ 4) (hr : r < 8) (hP : S r = some P) : ∃ J1, f_X7_empty F zKm J RM 89 (nI r) = some (nI (qSz P), J1) ∧ gBl (J1 90) 0 (gUp S r none) c ∧ gHi J1 ((S, c) :: H) := by
  have hR0 : RM 89 0 = some 90 := hRM 89 0 (by decide) (by decide) (by decide)
  obtain ⟨a1, a2, a3⟩ := gBl_some hb hr hP
  obtain ⟨J1, b1, b2, b3, b4, b5⟩ := g_rec hF hRM hb hh hl
  have e : J1 90 (97 * r) = nI (qSz P) := by rw [b2 _ (by omega)]; exact a2.1
  refine ⟨zup J1 90 (97 * r) 0, ?_, ⟨fun r' hr' => ?_, fun k hk => ?_⟩, gHi_keep b3 (zup_nb _ _ _ (by decide) _) (fun q h1 h2 => zup_self_ne _ _ _ (by omega))⟩
  · unfold f_X7_empty
    rw [X7_reg hr, zbd_s, if_neg (by decide), X7_isEmpty hR0 hr, if_neg a3, zbd_s, if_pos rfl, b1, zbd_s, hR0, zbd_s, zd91, zbd_s, nl97, nI_mul, zrd_s (by rw [zKm91]; show 97 * r < 5751; omega) (by decide), zbd_s, zbd_s, zd91, zbd_s, zwr_s (by rw [zKm91]; show 97 * r < 5751; omega) (by decide), zbd_s, e]
  · by_cases h : r' = r
    · subst h
      exact Or.inl ⟨by unfold gUp; rw [if_pos rfl], by rw [Nat.zero_add, zup_self]⟩
    · have e1 : gUp S r none r' = S r' := by unfold gUp; rw [if_neg h]
      rw [e1]
      rcases hb.1 r' hr' with ⟨c1, c2⟩ | ⟨G, c1, c2, c3⟩
      · exact Or.inl ⟨c1, by rw [zup_self_ne _ _ _ (by omega), b2 _ (by omega)]; exact c2⟩
      · exact Or.inr ⟨G, c1, c2, zTm_keep c3 (fun q hq => by rw [zup_self_ne _ _ _ (by omega), b2 _ (by omega)]) (gGd_wf c2).1.1.2.1⟩
  · rw [zup_self_ne _ _ _ (by omega), b2 _ (by omega)]
    exact hb.2 k hk
/-- set() -/
theorem g_set (hF : 5000 ≤ F) (hRM : zRM RM) (hb : gBl (J 90) 0 S c) (hh : gHi J H) (hl : H.length ≤ 4) {w v : Nat} (hw : w < 4) (hv : v ≤ if w < 2 then 1 else 8191) : ∃ J1, f_X7_set F zKm J RM 89 (nI w) (nI v) = some (c w, J1) ∧ gBl (J1 90) 0 S (fun k => if k = w then nI v else c k) ∧ gHi J1 ((S, c) :: H) := by
  have hR0 : RM 89 0 = some 90 := hRM 89 0 (by decide) (by decide) (by decide)
  obtain ⟨J1, b1, b2, b3, b4, b5⟩ := g_rec hF hRM hb hh hl
  have e : J1 90 (776 + w) = c w := by rw [b2 _ (by omega)]; exact gBl_c hb hw
  refine ⟨zup J1 90 (776 + w) (nI v), ?_, ⟨fun r' hr' => ?_, fun k hk => ?_⟩, gHi_keep b3 (zup_nb _ _ _ (by decide) _) (fun q h1 h2 => zup_self_ne _ _ _ (by omega))⟩
  · have e23 : ∀ g : Int32, (0 ≤ nI v ∧ nI v ≤ g) → f_X7_set_23 F zKm RM 89 J (nI w) (nI v) (nI v) 0 g = some (c w, zup J1 90 (776 + w) (nI v)) := fun g hg => by
      unfold f_X7_set_23
      rw [zi_1 hg, zbd_s, if_neg (by decide), b1, zbd_s, hR0, zbd_s, zd91, zbd_s, show (776 : Int32) = nI 776 from rfl, nI_add, zrd_s (by rw [zKm91]; show 776 + w < 5751; omega) (by decide), zbd_s, zbd_s, zd91, zbd_s, zwr_s (by rw [zKm91]; show 776 + w < 5751; omega) (by decide), zbd_s, e]
    unfold f_X7_set
    rw [zi_1 (show (0 : Int32) ≤ nI w ∧ nI w ≤ 3 from ⟨nI_pos' (by omega), nI_le (b := 3) (by omega) (by decide)⟩), zbd_s, if_neg (by decide)]
    by_cases h2 : w < 2
    · rw [if_pos h2] at hv
      rw [if_neg (show ¬ (2 : Int32) ≤ nI w from nI_ge (b := 2) h2 (by omega))]
      exact e23 1 ⟨nI_pos' (by omega), nI_le (b := 1) hv (by decide)⟩
    · rw [if_neg h2] at hv
      rw [if_pos (show (2 : Int32) ≤ nI w from nI_le (a := 2) (by omega) (by omega))]
      exact e23 8191 ⟨nI_pos' (by omega), nI_le (b := 8191) hv (by decide)⟩
  · rcases hb.1 r' hr' with ⟨c1, c2⟩ | ⟨G, c1, c2, c3⟩
    · exact Or.inl ⟨c1, by rw [zup_self_ne _ _ _ (by omega), b2 _ (by omega)]; exact c2⟩
    · exact Or.inr ⟨G, c1, c2, zTm_keep c3 (fun q hq => by rw [zup_self_ne _ _ _ (by omega), b2 _ (by omega)]) (gGd_wf c2).1.1.2.1⟩
  · show zup J1 90 (776 + w) (nI v) 90 (0 + 776 + k) = if k = w then nI v else c k
    rw [zup_row]
    by_cases h : k = w
    · rw [if_pos (by omega), if_pos h]
    · rw [if_neg (by omega), if_neg h, b2 _ (by omega)]
      exact hb.2 k hk
/-- undo() -/
theorem g_undo (hF : 5000 ≤ F) (hRM : zRM RM) {v : gSt × (Nat → Int32)} (hh : gHi J (v :: H)) : ∃ g J1, g ≤ 6 ∧ f_X7_undo F zKm J RM 89 = some (nI g, J1) ∧ gBl (J1 90) 0 v.1 v.2 ∧ gHi J1 H := by
  have hR0 : RM 89 0 = some 90 := hRM 89 0 (by decide) (by decide) (by decide)
  obtain ⟨h, h6, h1, h2⟩ := hh
  obtain ⟨a1, a2⟩ := h2 0 v rfl
  refine ⟨h - 1, zpg (zup J 89 1 (nI (h - 1))) (fun q => if 0 ≤ q ∧ q < 780 then J 90 (780 * h + q) else J 90 q), by omega, ?_, gBl_keep a2 fun q hq => ?_, h - 1, by omega, by rw [zpg_ne _ _ (by decide), zup_self], fun x u hu => ?_⟩
  · unfold f_X7_undo
    rw [h1, if_neg (show ¬ nI h = 0 from nI_ne0 (by omega) (by omega)), show (0 : Int32) = nI 0 from rfl, undo12 F hR0 h (by omega) h6 780 0 F J (by omega) (by omega) h1]
  · rw [zpg_91, if_pos (by omega), Nat.zero_add, Nat.sub_zero]
  · obtain ⟨b1, b2⟩ := h2 (x + 1) u (by rw [List.getElem?_cons_succ]; exact hu)
    refine ⟨by omega, gBl_keep b2 fun q hq => ?_⟩
    rw [zpg_91, if_neg (by omega), show 780 * (h - 1 - x) + q = 780 * (h - (x + 1)) + q by omega]
end GCB
