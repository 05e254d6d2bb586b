/-! matches() on both sides -/
section ZMA
variable {F : Nat} {K : zK} {R : zR} {RM : zR} {m t u o q : Nat} {T U : Tm}
theorem zFl_J {I J J' : zI} {i : Nat} (h : zFl T U I J m i) (h1 : ∀ b, b = 112 ∨ b = 113 ∨ b = 114 → J' b = J b) : zFl T U I J' m i := fun g hg => by
  have := h g hg
  unfold zFl1 at this ⊢
  rw [h1 112 (by decide), h1 113 (by decide), h1 114 (by decide)]
  exact this
theorem zFl_I {I I' J : zI} {i : Nat} (h : zFl T U I J m i) (h1 : ∀ b, m + 11 ≤ b → b ≤ m + 14 → I' b = I b) : zFl T U I' J m i := fun g hg => by
  have := h g hg
  unfold zFl1 at this ⊢
  rw [h1 (m + 11) (by omega) (by omega), h1 (m + 12) (by omega) (by omega), h1 (m + 13) (by omega) (by omega), h1 (m + 14) (by omega) (by omega)]
  exact this
theorem zNode_keep {I I' J J' : zI} {p sl s : Nat} (h : zNode T U I J m p sl) (h1 : I' (m + 9) p = I (m + 9) p) (h2 : I' (m + 10) p = I (m + 10) p) (h3 : zFrS s J J') (hs : sl < s) : zNode T U I' J' m p sl := by
  obtain ⟨j, e, a, b, c⟩ := h
  refine ⟨j, e, by rw [h1]; exact a, by rw [h2]; exact b, ?_⟩
  rcases c with ⟨c1, c2, c3, c4⟩ | ⟨c1, x, c2, c3⟩
  · exact Or.inl ⟨c1, c2, c3, zEn_frS c4 h3 hs⟩
  · exact Or.inr ⟨c1, x, c2, zEn_frS c3 h3 hs⟩
theorem match_loop (hF : 200 ≤ F) (hM : zMk K R m) (h0 : R m 0 = some t) (h1 : R m 1 = some u) (ht : 92 ≤ t) (hu : 92 ≤ u) (hRM : zRM RM) (ho : o + 97 ≤ 5751) (hq : q + 97 ≤ 5751) (hT : tWF T) (hU : tWF U) : ∀ (d i s f f' : Nat) (I J : zI), i + d = tn T → zTc K I R t T → zTc K I R u U → zTm (J 90) o T → zTm (J 90) q U → zFl T U I J m i → zStk T U I J m i s → (∀ y, y < tn T → J 92 y = nI (tsp T y)) → (∀ y, y < tn U → J 93 y = nI (tsp U y)) → d < f → d + 1 < f' →
    ∃ (v : Int32) (I' J' : zI), (v = 0 ∨ v = 1) ∧ f_X1_matches_47 F K m f I R (some t) (nI i) = some (v, I', R) ∧ f_X7_matches_55 F zKm RM 89 f' J (nI o) (nI q) 1 = some (v, J') ∧ zFrC m I I' ∧ zFrJ J J' ∧ (v = 1 → zFl T U I' J' m (tn T)) := by
  have hn := hT.1.2.1
  have hm42 : m = 41 ∨ m = 56 := hM.1
  intro d
  induction d with
  | zero =>
    intro i s f f' I J hi hTc hUc hTm hUm hfl hst h93 h94 hf hf'
    obtain ⟨f, rfl⟩ : ∃ g, f = g + 1 := ⟨f - 1, by omega⟩
    obtain ⟨f', rfl⟩ : ∃ g, f' = g + 1 := ⟨f' - 1, by omega⟩
    obtain ⟨s1, s2, s3⟩ := hst
    have hs : s = 0 := by have := wk_ge hT.1 s i; omega
    subst hs
    refine ⟨1, I, J, Or.inr rfl, ?_, ?_, zFrC_refl _ _, zFrJ_refl _, fun _ => by rw [show tn T = i by omega]; exact hfl⟩
    · show g_X1_matches_47 F K m _ I R (some t) (nI i) = _
      unfold g_X1_matches_47
      rw [zdr_s (t := 15) (by rw [hTc.1]), zbd_s, hTc.2.2.2.2.2.2.2.1, if_pos (nI_le (by omega) (by omega))]
    · show g_X7_matches_55 F zKm RM 89 _ J (nI o) (nI q) 1 = _
      unfold g_X7_matches_55
      rw [if_neg (by decide), s1, if_pos (by decide), if_pos (Or.inr rfl)]
  | succ d ih =>
    intro i s f f' I J hi hTc hUc hTm hUm hfl hst h93 h94 hf hf'
    obtain ⟨f, rfl⟩ : ∃ g, f = g + 1 := ⟨f - 1, by omega⟩
    obtain ⟨f', rfl⟩ : ∃ g, f' = g + 2 := ⟨f' - 2, by omega⟩
    obtain ⟨s1, s2, s3⟩ := hst
    have hs : s ≠ 0 := fun e => by
      rw [e] at s2
      have : i = tn T := s2
      omega
    obtain ⟨s, rfl⟩ : ∃ g, s = g + 1 := ⟨s - 1, by omega⟩
    have hw := wk_ge hT.1 (s + 1) i
    have k51 := hM.2.2.1.1
    have r2 := hM.2.2.2.1
    have hnd := s3 0 (by omega)
    rw [show s + 1 - 1 - 0 = s by omega] at hnd
    have hnd : zNode T U I (zup J 89 29 (nI s)) m i s := zNode_keep (s := s + 1) hnd rfl rfl (fun b b1 b2 k _ => zup_nb _ _ _ (by omega) _) (by omega)
    have e91 : zup J 89 29 (nI s) 90 = J 90 := zup_ne _ _ _ (by decide)
    have e93 : zup J 89 29 (nI s) 92 = J 92 := zup_ne _ _ _ (by decide)
    have e94 : zup J 89 29 (nI s) 93 = J 93 := zup_ne _ _ _ (by decide)
    obtain ⟨v, I1, J1, hv, p1, p2, p3, p4, p5⟩ := node_both (F := F) (J := zup J 89 29 (nI s)) hF hM h0 h1 ht hu hRM ho hq hT hU hTc hUc (by rw [e91]; exact hTm) (by rw [e91]; exact hUm) (show i < tn T by omega) (zFl_J hfl (fun b hb => zup_ne _ _ _ (by omega))) hnd (zup_self _ _ _ _) (by omega) (by rw [e93]; exact h93) (by rw [e94]; exact h94)
    have gC : f_X1_matches_47 F K m (f + 1) I R (some t) (nI i) = if v = (0 : Int32) then some ((0 : Int32), I1, R) else f_X1_matches_47 F K m f I1 R (some t) (nI (i + 1)) := by
      show g_X1_matches_47 F K m _ I R (some t) (nI i) = _
      unfold g_X1_matches_47
      rw [zdr_s (t := 15) (by rw [hTc.1]), zbd_s, hTc.2.2.2.2.2.2.2.1, if_neg (nI_ge (by omega) (by omega)), if_neg (show ¬ ((32 : Int32) ≤ nI i) from nI_ge (b := 32) (by omega) (by omega)), r2, zbd_s, zdr_s (t := 1) (by rw [k51]), zbd_s, zrd_s (by rw [k51]; show i < 32; omega) (by rw [k51]; decide), zbd_s, p1, zbd2_s, nI_1]
    have gJ : f_X7_matches_55 F zKm RM 89 (f' + 2) J (nI o) (nI q) 1 = f_X7_matches_55 F zKm RM 89 (f' + 1) J1 (nI o) (nI q) v := by
      show g_X7_matches_55 F zKm RM 89 _ J (nI o) (nI q) 1 = _
      unfold g_X7_matches_55
      rw [if_neg (by decide), s1, if_neg (show ¬ (nI (s + 1) ≤ (0 : Int32)) from nI_nle (by omega) (by omega)), nI_pred, zbd_s, p2, zbd2_s]
    have fJ : zFrJ J J1 := zFrJ_trans (J' := zup J 89 29 (nI s)) ⟨fun b b1 _ => zup_ne _ _ _ b1, fun k hk => zup_self_ne _ _ _ hk⟩ p4
    rcases hv with rfl | rfl
    · refine ⟨0, I1, J1, Or.inl rfl, by rw [gC, if_pos rfl], ?_, p3, fJ, fun h => absurd h (by decide)⟩
      rw [gJ]
      show g_X7_matches_55 F zKm RM 89 _ J1 (nI o) (nI q) 0 = _
      unfold g_X7_matches_55
      rw [if_pos rfl, if_pos (Or.inl rfl)]
    · obtain ⟨x1, x2, x3, x4, x5⟩ := p5 rfl
      have hTc1 : zTc K I1 R t T := zTc_row hTc ht (fun b hb => p3 b (by omega)) (fun _ _ => rfl)
      have hUc1 : zTc K I1 R u U := zTc_row hUc hu (fun b hb => p3 b (by omega)) (fun _ _ => rfl)
      have f91 : J1 90 = J 90 := fJ.1 90 (by decide) (by decide)
      have f93 : J1 92 = J 92 := fJ.1 92 (by decide) (by decide)
      have f94 : J1 93 = J 93 := fJ.1 93 (by decide) (by decide)
      have hst1 : zStk T U I1 J1 m (i + 1) (s + tr T i) := by
        have he := tc_end hT.1 (show i < tn T by omega)
        refine ⟨x2, ?_, fun k hk => ?_⟩
        · rw [show s + tr T i = tr T i + s by omega, wk_add, show wk (tsp T) (tr T i) (i + 1) = i + tsp T i from he.1]
          exact s2
        · by_cases hk2 : k < tr T i
          · rw [show s + tr T i - 1 - k = s + (tr T i - 1 - k) by omega]
            exact x5 k hk2
          · obtain ⟨k', rfl⟩ : ∃ k', k = tr T i + k' := ⟨k - tr T i, by omega⟩
            have h3 := s3 (k' + 1) (by omega)
            have hw2 : wk (tsp T) (tr T i + k') (i + 1) = wk (tsp T) (k' + 1) i := by
              rw [wk_add, show wk (tsp T) (tr T i) (i + 1) = i + tsp T i from he.1]
              rfl
            have hw3 : i + tsp T i ≤ wk (tsp T) (k' + 1) i := wk_le (tsp T) k' (i + tsp T i)
            rw [hw2, show s + tr T i - 1 - (tr T i + k') = s - 1 - k' by omega]
            rw [show s + 1 - 1 - (k' + 1) = s - 1 - k' by omega] at h3
            refine zNode_keep (s := s) h3 (x4 _ (Or.inr hw3)).1 (x4 _ (Or.inr hw3)).2 (fun b b1 b2 k hk => ?_) (by omega)
            rw [x3 b b1 b2 k hk]
            exact zup_nb _ _ _ (by omega) _
      obtain ⟨v, I2, J2, hv, y1, y2, y3, y4, y5⟩ := ih (i + 1) (s + tr T i) f (f' + 1) I1 J1 (by omega) hTc1 hUc1 (by rw [f91]; exact hTm) (by rw [f91]; exact hUm) x1 hst1 (by rw [f93]; exact h93) (by rw [f94]; exact h94) (by omega) (by omega)
      exact ⟨v, I2, J2, hv, by rw [gC, if_neg (by decide)]; exact y1, by rw [gJ]; exact y2, zFrC_trans p3 y3, zFrJ_trans fJ y4, y5⟩
end ZMA
/-- what a matching touches on the reference's side -/
def zFrM (J J' : zI) : Prop := (∀ b, b ≠ 89 → b ≠ 92 → b ≠ 93 → b < 107 ∨ 114 < b → J' b = J b) ∧ ∀ k, k ≠ 29 → J' 89 k = J 89 k
theorem zFrM_trans {J J' J'' : zI} (h : zFrM J J') (h2 : zFrM J' J'') : zFrM J J'' := ⟨fun b h3 h4 h5 h6 => by rw [h2.1 b h3 h4 h5 h6, h.1 b h3 h4 h5 h6], fun k hk => by rw [h2.2 k hk, h.2 k hk]⟩
section ZMC
variable {F : Nat} {K : zK} {I : zI} {R : zR} {J : zI} {RM : zR} {m t u o q : Nat} {T U : Tm}
theorem match_both (hF : 200 ≤ F) (hM : zMk K R m) (hRM : zRM RM) (ht : 92 ≤ t) (hu : 92 ≤ u) (ho : o + 97 ≤ 5751) (hq : q + 97 ≤ 5751) (hT : tWF T) (hU : tWF U) (hTc : zTc K I R t T) (hUc : zTc K I R u U) (hTm : zTm (J 90) o T) (hUm : zTm (J 90) q U) :
    ∃ (v : Int32) (I' J' : zI), (v = 0 ∨ v = 1) ∧ f_X1_matches F K I R m (some t) (some u) = some (v, I', zup (zup R m 0 (some t)) m 1 (some u)) ∧ f_X7_matches F zKm J RM 89 (nI o) (nI q) = some (v, J') ∧ zFrC m I I' ∧ zFrM J J' ∧ (v = 1 → zFl T U I' J' m (tn T) ∧ (∀ y, y < tn T → J' 92 y = nI (tsp T y)) ∧ ∀ y, y < tn U → J' 93 y = nI (tsp U y)) := by
  have hm42 : m = 41 ∨ m = 56 := hM.1
  have hn := hT.1.2.1
  have hn1 := hT.1.1
  have hM2 := zMk_set hM (some t) (some u)
  have r0 : RM 89 0 = some 90 := hRM 89 0 (by decide) (by decide) (by decide)
  have r5 : RM 89 5 = some 92 := hRM 89 5 (by decide) (by decide) (by decide)
  have r6 : RM 89 6 = some 93 := hRM 89 6 (by decide) (by decide) (by decide)
  have hz0 : zup (zup R m 0 (some t)) m 1 (some u) m 0 = some t := by rw [zup_self_ne _ _ _ (by decide), zup_self]
  have hz1 : zup (zup R m 0 (some t)) m 1 (some u) m 1 = some u := zup_self _ _ _ _
  have hTc2 : zTc K (zup (zup (zrw I (m + 11) 0 10 (fun _ => (-1 : Int32))) (m + 9) 0 (0 : Int32)) (m + 10) 0 (1 : Int32)) (zup (zup R m 0 (some t)) m 1 (some u)) t T := zTc_row hTc ht (fun b hb => by rw [zup_ne _ _ _ (by omega), zup_ne _ _ _ (by omega), zrw_ne _ _ _ _ (by omega)]) (fun b hb => by rw [zup_ne _ _ _ (by omega), zup_ne _ _ _ (by omega)])
  have hUc2 : zTc K (zup (zup (zrw I (m + 11) 0 10 (fun _ => (-1 : Int32))) (m + 9) 0 (0 : Int32)) (m + 10) 0 (1 : Int32)) (zup (zup R m 0 (some t)) m 1 (some u)) u U := zTc_row hUc hu (fun b hb => by rw [zup_ne _ _ _ (by omega), zup_ne _ _ _ (by omega), zrw_ne _ _ _ _ (by omega)]) (fun b hb => by rw [zup_ne _ _ _ (by omega), zup_ne _ _ _ (by omega)])
  have c1 := X7_counts (F := F) (J := J) (by omega) r0 ho (w := 92) rfl (by decide) hT.1 (tWF_r hT) hTm
  have c2 := X7_counts (F := F) (J := zrw J 92 0 (tn T) (fun j => nI (tsp T j))) (by omega) r0 hq (w := 93) rfl (by decide) hU.1 (tWF_r hU) (by rw [zrw_ne _ _ _ _ (by decide)]; exact hUm)
  obtain ⟨p1, p2, p3⟩ := zPush_all (zup (zrw (zrw (zrw J 92 0 (tn T) (fun j => nI (tsp T j))) 93 0 (tn U) (fun j => nI (tsp U j))) 113 0 10 (fun _ => (-1 : Int32))) 89 29 (0 : Int32)) 0 (0, 0, 0, 0, 0)
  have hJ0 : ∀ b, b ≠ 89 → b ≠ 92 → b ≠ 93 → b < 107 ∨ 114 < b → zPush (zup (zrw (zrw (zrw J 92 0 (tn T) (fun j => nI (tsp T j))) 93 0 (tn U) (fun j => nI (tsp U j))) 113 0 10 (fun _ => (-1 : Int32))) 89 29 (0 : Int32)) 0 (0, 0, 0, 0, 0) b = J b := fun b h1 h2 h3 h4 => by rw [p1.1 b h1 (by omega), zup_ne _ _ _ h1, zrw_ne _ _ _ _ (by omega), zrw_ne _ _ _ _ h3, zrw_ne _ _ _ _ h2]
  have h93 : ∀ y, y < tn T → zPush (zup (zrw (zrw (zrw J 92 0 (tn T) (fun j => nI (tsp T j))) 93 0 (tn U) (fun j => nI (tsp U j))) 113 0 10 (fun _ => (-1 : Int32))) 89 29 (0 : Int32)) 0 (0, 0, 0, 0, 0) 92 y = nI (tsp T y) := fun y hy => by rw [p1.1 92 (by decide) (by decide), zup_ne _ _ _ (by decide), zrw_ne _ _ _ _ (by decide), zrw_ne _ _ _ _ (by decide), zrw_in _ _ _ (Nat.zero_le _) hy]
  have h94 : ∀ y, y < tn U → zPush (zup (zrw (zrw (zrw J 92 0 (tn T) (fun j => nI (tsp T j))) 93 0 (tn U) (fun j => nI (tsp U j))) 113 0 10 (fun _ => (-1 : Int32))) 89 29 (0 : Int32)) 0 (0, 0, 0, 0, 0) 93 y = nI (tsp U y) := fun y hy => by rw [p1.1 93 (by decide) (by decide), zup_ne _ _ _ (by decide), zrw_ne _ _ _ _ (by decide), zrw_in _ _ _ (Nat.zero_le _) hy]
  obtain ⟨v, I', J', hv, y1, y2, y3, y4, y5⟩ := match_loop (F := F) hF hM2 hz0 hz1 ht hu hRM ho hq hT hU (tn T) 0 1 F F _ _ (Nat.zero_add _) hTc2 hUc2 (by rw [hJ0 90 (by decide) (by decide) (by decide) (by decide)]; exact hTm) (by rw [hJ0 90 (by decide) (by decide) (by decide) (by decide)]; exact hUm)
    (fun g hg => Or.inl ⟨by rw [zup_nb _ _ _ (by omega), zup_nb _ _ _ (by omega), zrw_in _ _ _ (Nat.zero_le _) hg], by rw [p1.1 113 (by decide) (by decide), zup_ne _ _ _ (by decide), zrw_in _ _ _ (Nat.zero_le _) hg], fun p hp => by omega⟩)
    ⟨p2, by show 0 + tsp T 0 = tn T; rw [hT.1.2.2.2.2.1, Nat.zero_add], fun k hk => by
      obtain rfl : k = 0 := by omega
      exact ⟨0, 1, (zup_nb _ _ _ (show m + 9 ≠ m + 10 by omega) _).trans (zup_self _ _ _ _), zup_self _ _ _ _, Or.inl ⟨hT.2.2.2.1, rfl, by have := hU.1.1; omega, p3⟩⟩⟩ h93 h94 (by omega) (by omega)
  refine ⟨v, I', J', hv, ?_, ?_, zFrC_trans (fun b hb => ?_) y3, ⟨fun b h1 h2 h3 h4 => by rw [y4.1 b h1 h4, hJ0 b h1 h2 h3 h4], fun k hk => ?_⟩, fun h => ⟨y5 h, fun y hy => by rw [y4.1 92 (by decide) (by decide)]; exact h93 y hy, fun y hy => by rw [y4.1 93 (by decide) (by decide)]; exact h94 y hy⟩⟩
  · unfold f_X1_matches
    rw [zbd_s, zbd_s]
    exact (X1_matches12 (F := F) hM2 (some t) 10 0 F I (by decide) (by omega)).trans y1
  · unfold f_X7_matches
    rw [r5, zbd_s, c1, zbd_s, r6, zbd_s, c2, zbd_s]
    exact (X7_matches20 (F := F) hRM (nI o) (nI q) 10 0 F _ (by decide) (by omega)).trans y2
  · rw [zup_ne _ _ _ (by omega), zup_ne _ _ _ (by omega), zrw_ne _ _ _ _ (by omega)]
  · rw [y4.2 k hk, p1.2.1 k hk, zup_self_ne _ _ _ hk, zrw_ne _ _ _ _ (by decide), zrw_ne _ _ _ _ (by decide), zrw_ne _ _ _ _ (by decide)]
end ZMC
