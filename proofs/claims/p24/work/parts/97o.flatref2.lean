/-! put(): the reference's FLATTENING, the loop -/
section ZPO
variable {F : Nat} {RM : zR} {T : Tm} {fb : Nat → Bool}
theorem zTm_nd {P : Nat → Int32} {o : Nat} {G : aFo} : zTm P o (tmF G) ↔ P o = nI (qSz G) ∧ ∀ i, i < qSz G → P (o + 1 + 3 * i) = nI (qNd G i).1 ∧ P (o + 2 + 3 * i) = nI (qNd G i).2.1 ∧ P (o + 3 + 3 * i) = nI (qNd G i).2.2 := by
  unfold zTm
  constructor
  · intro h
    refine ⟨h.1, fun i hi => ?_⟩
    rw [← q_ts_f, ← q_tg_f, ← q_tr_f]
    exact h.2 i hi
  · intro h
    refine ⟨h.1, fun i hi => ?_⟩
    rw [q_ts_f, q_tg_f, q_tr_f]
    exact h.2 i hi
/-- the row without node i -/
theorem flat_row {P P' : Nat → Int32} {G : aFo} {i : Nat} (h0 : 0 < i) (hi : i < qSz G) (hr : 0 < (qNd G i).2.2) (hp : qPar G 0 1 i ≠ 0) (h : zTm P 5460 (tmF G)) (e0 : P' 5460 = nI (qSz G - 1)) (e1 : ∀ x, 5461 ≤ x → x < 5461 + 3 * i → x ≠ 5463 + 3 * (qPar G 0 1 i - 1) → P' x = P x) (e2 : P' (5463 + 3 * (qPar G 0 1 i - 1)) = nI ((qNd G (qPar G 0 1 i - 1)).2.2 + (qNd G i).2.2 - 1)) (e3 : ∀ x, 5461 + 3 * i ≤ x → x < 5458 + 3 * qSz G → P' x = P (x + 3)) : zTm P' 5460 (tmF (qDAt i G)) := by
  have hs := q_dAt_sz G i hi
  obtain ⟨h1, h2⟩ := zTm_nd.mp h
  have hpi : qPar G 0 1 i < 1 + i := by
    rcases q_par_at G 0 0 0 1 i hi with ⟨c1, -⟩ | ⟨-, c1, -⟩
    · exact absurd c1 hp
    · exact c1
  refine zTm_nd.mpr ⟨by rw [e0]; congr 1; omega, fun x hx => ?_⟩
  rw [q_dAt_nd G 0 1 i (by omega) hi hr x (by omega)]
  by_cases hxi : x < i
  · rw [if_pos hxi]
    obtain ⟨g1, g2, g3⟩ := h2 x (by omega)
    by_cases hxp : 1 + x = qPar G 0 1 i
    · rw [if_pos hxp]
      have hx1 : qPar G 0 1 i - 1 = x := by omega
      rw [hx1] at e1 e2
      exact ⟨by rw [e1 _ (by omega) (by omega) (by omega)]; exact g1, by rw [e1 _ (by omega) (by omega) (by omega)]; exact g2, by rw [show 5460 + 3 + 3 * x = 5463 + 3 * x by omega]; exact e2⟩
    · rw [if_neg hxp]
      exact ⟨by rw [e1 _ (by omega) (by omega) (by omega)]; exact g1, by rw [e1 _ (by omega) (by omega) (by omega)]; exact g2, by rw [e1 _ (by omega) (by omega) (by omega)]; exact g3⟩
  · rw [if_neg hxi]
    obtain ⟨g1, g2, g3⟩ := h2 (x + 1) (by omega)
    exact ⟨by rw [e3 _ (by omega) (by omega)]; exact g1, by rw [e3 _ (by omega) (by omega)]; exact g2, by rw [e3 _ (by omega) (by omega)]; exact g3⟩
/-- sorts and numbers are small -/
def aSm (G : aFo) : Prop := ∀ x, x < qSz G → (qNd G x).1 ≤ 3 ∧ (qNd G x).2.1 ≤ 12
theorem aSm_dAt {G : aFo} {i : Nat} (hi : i < qSz G) (hr : 0 < (qNd G i).2.2) (h : aSm G) : aSm (qDAt i G) := fun x hx => by
  have hs := q_dAt_sz G i hi
  rw [q_dAt_nd G 0 1 i (by omega) hi hr x (by omega)]
  by_cases hxi : x < i
  · rw [if_pos hxi]
    by_cases hxp : 1 + x = qPar G 0 1 i
    · rw [if_pos hxp]; exact h x (by omega)
    · rw [if_neg hxp]; exact h x (by omega)
  · rw [if_neg hxi]; exact h _ (by omega)
/-- node x goes into its parent -/
abbrev aGo (fb : Nat → Bool) (G : aFo) (x : Nat) : Prop := qDs fb (qPAt 9 0 x G).1 (qPAt 9 0 x G).2 (qNd G x).1 (qNd G x).2.1 (qNd G x).2.2
theorem aGo_dAt {G : aFo} {i : Nat} (h1 : qLn G = 1) (h32 : qSz G ≤ 32) (hi0 : 0 < i) (hi : i < qSz G) (hr : 0 < (qNd G i).2.2) (h : ∀ x, x < i → ¬ aGo fb G x) : ∀ x, x < i → ¬ aGo fb (qDAt i G) x := fun x hx => by
  unfold aGo
  rw [q_pAt_dAt G 9 0 i x hi hx, q_dAt_nd G 0 1 i (by omega) hi hr x (by omega), if_pos hx]
  by_cases hxp : 1 + x = qPar G 0 1 i
  · rw [if_pos hxp]
    intro hd
    by_cases h0 : 0 < (qNd G x).2.2
    · exact h x hx ⟨hd.1, hd.2.1, hd.2.2.1, h0, hd.2.2.2.2⟩
    · -- a node with a child has arguments
      obtain ⟨i', k, b1, b2, b3, b4⟩ := q_par_ne h1 h32 hi0 hi
      rw [q_tr_f] at b2
      have : i' = x := by omega
      rw [this] at b2
      omega
  · rw [if_neg hxp]; exact h x hx
theorem flat9 (hF : 200 ≤ F) (hRM : zRM RM) : ∀ (m i f : Nat) (G : aFo) (J : zI), qSz G ≤ i + m → m < f → 1 ≤ i → i ≤ qSz G → qLn G = 1 → qSz G ≤ 32 → aSm G → zTm (J 90) 5460 (tmF G) → (∀ j, 0 < j → j < qSz G → J 95 j = nI (qPar G 0 1 j - 1)) → (∀ x, x < i → ¬ aGo fb G x) → (∀ v, fb v = true ↔ aBt (J 90 778) v) → ∃ J', f_X7_flattens_9 F zKm RM 89 f J (nI i) = some J' ∧ zTm (J' 90) 5460 (tmF (qFl fb 9 0 G)) ∧ (∀ b, b ≠ 90 → b ≠ 92 → b ≠ 94 → b ≠ 95 → J' b = J b) ∧ ∀ x, x < 5460 ∨ 5557 ≤ x → J' 90 x = J 90 x := by
  have r0 : RM 89 0 = some 90 := hRM 89 0 (by decide) (by decide) (by decide)
  have r8 : RM 89 8 = some 95 := hRM 89 8 (by decide) (by decide) (by decide)
  have K96 : zKm 95 = (1, 32) := rfl
  intro m
  induction m with
  | zero =>
    intro i f G J hm hf hi1 hi2 h1 h32 hsm h hp hgo hfb
    obtain ⟨f, rfl⟩ : ∃ y, f = y + 1 := ⟨f - 1, by omega⟩
    refine ⟨J, ?_, ?_, fun _ _ _ _ _ => rfl, fun _ _ => rfl⟩
    · show g_X7_flattens_9 F zKm RM 89 _ J (nI i) = _
      unfold g_X7_flattens_9
      rw [r0, zbd_s, zd91, zbd_s, show (5460 : Int32) = nI 5460 from rfl, zrd_s (by rw [zKm91]; decide) (by decide), zbd_s, (zTm_nd.mp h).1, if_pos (nI_le (by omega) (by omega))]
    · rw [q_fl_id G 9 0 (fun x hx => hgo x (by omega))]
      exact h
  | succ m ih =>
    intro i f G J hm hf hi1 hi2 h1 h32 hsm h hp hgo hfb
    by_cases hin : i = qSz G
    · obtain ⟨f, rfl⟩ : ∃ y, f = y + 1 := ⟨f - 1, by omega⟩
      refine ⟨J, ?_, ?_, fun _ _ _ _ _ => rfl, fun _ _ => rfl⟩
      · show g_X7_flattens_9 F zKm RM 89 _ J (nI i) = _
        unfold g_X7_flattens_9
        rw [r0, zbd_s, zd91, zbd_s, show (5460 : Int32) = nI 5460 from rfl, zrd_s (by rw [zKm91]; decide) (by decide), zbd_s, (zTm_nd.mp h).1, if_pos (nI_le (by omega) (by omega))]
      · rw [q_fl_id G 9 0 (fun x hx => hgo x (by omega))]
        exact h
    obtain ⟨f, rfl⟩ : ∃ y, f = y + 1 := ⟨f - 1, by omega⟩
    have hi : i < qSz G := by omega
    have hiT : i < tn (tmF G) := hi
    have h32T : tn (tmF G) ≤ 32 := h32
    obtain ⟨i', k, b1, b2, b3, b4⟩ := q_par_ne h1 h32 (show 0 < i by omega) hi
    rw [q_tr_f] at b2
    have hi'T : i' < tn (tmF G) := by show i' < qSz G; omega
    have hgp : qPAt 9 0 i G = ((qNd G i').1, (qNd G i').2.1) := by
      rcases q_par_at G 9 0 0 1 i hi with ⟨c1, -⟩ | ⟨-, -, c3⟩
      · omega
      · rw [c3, b4]; rfl
    have hpi : J 95 i = nI i' := by rw [hp i (by omega) hi, b4]; rfl
    have s1 := hsm i hi
    have s2 := hsm i' (by omega)
    have s3 := q_nd_len G i hi
    have s4 := q_nd_len G i' (by omega)
    have hpg : qPar G 0 1 i - 1 = i' := by omega
    -- a node that stays
    have hno : ¬ aGo fb G i → ∃ J', f_X7_flattens_9 F zKm RM 89 f J (nI (i + 1)) = some J' ∧ zTm (J' 90) 5460 (tmF (qFl fb 9 0 G)) ∧ (∀ b, b ≠ 90 → b ≠ 92 → b ≠ 94 → b ≠ 95 → J' b = J b) ∧ ∀ x, x < 5460 ∨ 5557 ≤ x → J' 90 x = J 90 x := fun hn =>
      ih (i + 1) f G J (by omega) (by omega) (by omega) (by omega) h1 h32 hsm h hp (fun x hx => by
        by_cases e : x = i
        · rw [e]; exact hn
        · exact hgo x (by omega)) hfb
    have e100 : ∀ x2, f_X7_flattens_100 F zKm RM 89 (f_X7_flattens_9 F zKm RM 89 f) J (nI i) x2 = f_X7_flattens_9 F zKm RM 89 f J (nI (i + 1)) := fun x2 => by
      unfold f_X7_flattens_100 f_X7_flattens_101 f_X7_flattens_208
      rw [if_pos rfl, show (1 : Int32) = nI 1 from rfl, nI_add]
    have est : f_X7_flattens_9 F zKm RM 89 (f + 1) J (nI i) = if aGo fb G i then f_X7_flattens_101 F zKm RM 89 (f_X7_flattens_9 F zKm RM 89 f) J (nI i) (nI i') 1 else f_X7_flattens_9 F zKm RM 89 f J (nI (i + 1)) := by
      show g_X7_flattens_9 F zKm RM 89 (f_X7_flattens_9 F zKm RM 89 f) J (nI i) = _
      unfold g_X7_flattens_9
      rw [r0, zbd_s, zd91, zbd_s, show (5460 : Int32) = nI 5460 from rfl, zrd_s (by rw [zKm91]; decide) (by decide), zbd_s, (zTm_nd.mp h).1, if_neg (nI_ge (by omega) (by omega)), r8, zbd_s, zdr_s (t := 1) (by rw [K96]), zbd_s, zrd_s (by rw [K96]; show i < 32; omega) (by rw [K96]; decide), zbd_s, hpi]
      rw [X7_sort r0 (by decide) h h32T hiT, zbd_s, X7_sort r0 (by decide) h h32T hi'T, zbd_s, X7_number r0 (by decide) h h32T hiT, zbd_s, X7_number r0 (by decide) h h32T hi'T, zbd_s, X7_arguments r0 (by decide) h h32T hiT, zbd_s, q_ts_f, q_ts_f, q_tg_f, q_tg_f, q_tr_f, e100, zbd_s]
      by_cases c1 : (qNd G i).1 = 0
      · rw [if_pos ((ni0 (by omega)).mpr c1)]
        by_cases c2 : (qNd G i').1 = 0
        · rw [if_pos ((ni0 (by omega)).mpr c2)]
          by_cases c3 : (qNd G i).2.1 = (qNd G i').2.1
          · rw [if_pos (congrArg nI c3)]
            by_cases c4 : 0 < (qNd G i).2.2
            · rw [if_neg (show ¬ nI (qNd G i).2.2 ≤ (0 : Int32) from nI_ge (a := 0) c4 (by omega))]
              by_cases c5 : aBt (J 90 778) (qNd G i).2.1
              · rw [show (2 : Int32) = nI 2 from rfl, (X7_isSet hRM (k := 2) (by decide)).1 c5, zbd_s, if_neg (by decide), if_pos]
                unfold aGo
                rw [hgp]
                exact ⟨c1, c2, c3, c4, (hfb _).mpr c5⟩
              · rw [show (2 : Int32) = nI 2 from rfl, (X7_isSet hRM (k := 2) (by decide)).2 c5, zbd_s, if_pos rfl, if_neg]
                intro hd
                exact c5 ((hfb _).mp hd.2.2.2.2)
            · rw [if_pos (show nI (qNd G i).2.2 ≤ (0 : Int32) from nI_le (b := 0) (by omega) (by omega)), if_neg (fun hd => c4 hd.2.2.2.1)]
          · rw [if_neg (fun e => c3 (nI_inj (by omega) (by omega) e)), if_neg]
            intro hd
            unfold aGo at hd
            rw [hgp] at hd
            exact c3 hd.2.2.1
        · rw [if_neg (fun e => c2 ((ni0 (by omega)).mp e)), if_neg]
          intro hd
          unfold aGo at hd
          rw [hgp] at hd
          exact c2 hd.2.1
      · rw [if_neg (fun e => c1 ((ni0 (by omega)).mp e)), if_neg (fun hd => c1 hd.1)]
    rw [est]
    by_cases hd : aGo fb G i
    · rw [if_pos hd]
      have hr : 0 < (qNd G i).2.2 := hd.2.2.2.1
      have hz := q_dAt_sz G i hi
      obtain ⟨g1, g2⟩ := zTm_nd.mp h
      obtain ⟨-, -, q3⟩ := g2 i' (by omega)
      obtain ⟨J1, hJ1⟩ : ∃ x : zI, x = zup J 90 (5463 + 3 * i') (nI ((qNd G i').2.2 + (qNd G i).2.2 - 1)) := ⟨_, rfl⟩
      obtain ⟨J2, hJ2⟩ : ∃ x : zI, x = zup (zrw J1 90 (5461 + 3 * i) (5458 + 3 * qSz G) (fun y => J1 90 (y + 3))) 90 5460 (nI (qSz G - 1)) := ⟨_, rfl⟩
      have row : ∀ x, J2 90 x = if x = 5460 then nI (qSz G - 1) else if 5461 + 3 * i ≤ x ∧ x < 5458 + 3 * qSz G then J1 90 (x + 3) else if x = 5463 + 3 * i' then nI ((qNd G i').2.2 + (qNd G i).2.2 - 1) else J 90 x := fun x => by
        rw [hJ2, zup_row]
        by_cases x1 : x = 5460
        · rw [if_pos x1, if_pos x1]
        · rw [if_neg x1, if_neg x1]
          by_cases x2 : 5461 + 3 * i ≤ x ∧ x < 5458 + 3 * qSz G
          · rw [if_pos x2, zrw_in _ _ _ x2.1 x2.2]
          · rw [if_neg x2]
            unfold zrw
            rw [if_neg (fun hh => x2 ⟨hh.2.1, hh.2.2⟩), hJ1, zup_row]
      have hTm2 : zTm (J2 90) 5460 (tmF (qDAt i G)) := by
        refine flat_row (P := J 90) (by omega) hi hr (by omega) h (by rw [row, if_pos rfl]) (fun x x1 x2 x3 => ?_) ?_ (fun x x1 x2 => ?_)
        · rw [hpg] at x3
          rw [row, if_neg (by omega), if_neg (by omega), if_neg x3]
        · rw [hpg, row, if_neg (by omega), if_neg (by omega), if_pos rfl]
        · rw [row, if_neg (by omega), if_pos ⟨x1, x2⟩, hJ1, zup_row, if_neg (by omega)]
      have hl : qLn (qDAt i G) = 1 := by rw [(q_dAt_roots G 0 1 i (by omega) hi hr).2 (by omega)]; exact h1
      have hz32 : qSz (qDAt i G) ≤ 32 := by omega
      obtain ⟨J3, l1, l2, l3⟩ := X7_levelsG (F := F) (by omega) hRM (by decide) hl hz32 hTm2
      obtain ⟨J', v1, v2, v3, v4⟩ := ih i f (qDAt i G) J3 (by omega) (by omega) hi1 (by omega) hl hz32 (aSm_dAt hi hr hsm) (by rw [l2 90 (by decide) (by decide) (by decide)]; exact hTm2) l3 (aGo_dAt h1 h32 (by omega) hi hr hgo) (fun v => by
        rw [l2 90 (by decide) (by decide) (by decide), row, if_neg (by decide), if_neg (by omega), if_neg (by omega)]
        exact hfb v)
      rw [q_fl_dAt G 9 0 i hi hd] at v2
      refine ⟨J', ?_, v2, fun b x1 x2 x3 x4 => ?_, fun x hx => ?_⟩
      · unfold f_X7_flattens_101
        rw [if_neg (by decide), r0, zbd_s, zd91, zbd_s, show (5463 : Int32) = nI 5463 from rfl, nl3, nI_mul, nI_add, zrd_s (by rw [zKm91]; show _ < 5751; omega) (by decide), zbd_s, show (5460 : Int32) = nI 5460 from rfl, X7_arguments r0 (by decide) h h32T hiT, zbd_s, q_tr_f]
        rw [show 5463 + 3 * i' = 5460 + 3 + 3 * i' by omega, q3, aPrd hr, nI_add, show (qNd G i').2.2 + ((qNd G i).2.2 - 1) = (qNd G i').2.2 + (qNd G i).2.2 - 1 by omega, zwr_s (by rw [zKm91]; show _ < 5751; omega) (by decide), zbd_s, show (5461 : Int32) = nI 5461 from rfl, nI_mul, nI_add, zbd_s, show 5460 + 3 + 3 * i' = 5463 + 3 * i' by omega, ← hJ1]
        rw [flat140 hRM h32 (by omega) _ _ (5458 + 3 * qSz G - (5461 + 3 * i)) (5461 + 3 * i) F J1 (by omega) (by omega) (by omega) (by rw [hJ1, zup_row, if_neg (by omega)]; exact g1), ← hJ2, l1, zbd_s]
        exact v1
      · rw [v3 b x1 x2 x3 x4, l2 b x2 x3 x4, hJ2, zup_ne _ _ _ x1, zrw_ne _ _ _ _ x1, hJ1, zup_ne _ _ _ x1]
      · rw [v4 x hx, l2 90 (by decide) (by decide) (by decide), row, if_neg (by omega), if_neg (by omega), if_neg (by omega)]
    · rw [if_neg hd]
      exact hno hd
theorem X7_flattens {J : zI} {G : aFo} (hF : 200 ≤ F) (hRM : zRM RM) (h1 : qLn G = 1) (h32 : qSz G ≤ 32) (hsm : aSm G) (h : zTm (J 90) 5460 (tmF G)) (hfb : ∀ v, fb v = true ↔ aBt (J 90 778) v) : ∃ J', f_X7_flattens F zKm J RM 89 = some J' ∧ zTm (J' 90) 5460 (tmF (qFl fb 9 0 G)) ∧ (∀ b, b ≠ 90 → b ≠ 92 → b ≠ 94 → b ≠ 95 → J' b = J b) ∧ ∀ x, x < 5460 ∨ 5557 ≤ x → J' 90 x = J 90 x := by
  obtain ⟨J1, l1, l2, l3⟩ := X7_levelsG (F := F) (o := 5460) (by omega) hRM (by decide) h1 h32 h
  have hs1 : 1 ≤ qSz G := by have := q_len_sz G; omega
  obtain ⟨J', v1, v2, v3, v4⟩ := flat9 (F := F) (fb := fb) hF hRM 32 1 F G J1 (by omega) (by omega) (Nat.le_refl _) hs1 h1 h32 hsm (by rw [l2 90 (by decide) (by decide) (by decide)]; exact h) l3 (fun x hx hd => by
    obtain rfl : x = 0 := by omega
    have e : qPAt 9 0 0 G = (9, 0) := by
      cases G with
      | leaf _ => rfl
      | branch w k r => rw [qPAt, if_pos rfl]
    unfold aGo at hd
    rw [e] at hd
    exact absurd hd.2.1 (by decide)) (fun v => by rw [l2 90 (by decide) (by decide) (by decide)]; exact hfb v)
  refine ⟨J', ?_, v2, fun b x1 x2 x3 x4 => by rw [v3 b x1 x2 x3 x4, l2 b x2 x3 x4], fun x hx => by rw [v4 x hx, l2 90 (by decide) (by decide) (by decide)]⟩
  unfold f_X7_flattens
  rw [show (5460 : Int32) = nI 5460 from rfl, l1, zbd_s]
  exact v1
end ZPO
