/-! ONE NODE of the pattern on both sides -/
def zFrC (m : Nat) (I I' : zI) : Prop := ∀ b, b < m + 9 ∨ m + 14 < b → I' b = I b
/-- the reference's frame of a matching under way -/
def zFrJ (J J' : zI) : Prop := (∀ b, b ≠ 89 → b < 107 ∨ 114 < b → J' b = J b) ∧ ∀ k, k ≠ 29 → J' 89 k = J 89 k
def zFrS (s : Nat) (J J' : zI) : Prop := ∀ b, 107 ≤ b → b ≤ 111 → ∀ k, k < s → J' b k = J b k
theorem zFrC_refl (m : Nat) (I : zI) : zFrC m I I := fun _ _ => rfl
theorem zFrC_trans {m : Nat} {I I' I'' : zI} (h : zFrC m I I') (h2 : zFrC m I' I'') : zFrC m I I'' := fun b hb => by rw [h2 b hb, h b hb]
theorem zFrJ_refl (J : zI) : zFrJ J J := ⟨fun _ _ _ => rfl, fun _ _ => rfl⟩
theorem zFrJ_trans {J J' J'' : zI} (h : zFrJ J J') (h2 : zFrJ J' J'') : zFrJ J J'' := ⟨fun b h3 h4 => by rw [h2.1 b h3 h4, h.1 b h3 h4], fun k hk => by rw [h2.2 k hk, h.2 k hk]⟩
theorem zFrJ_of {s : Nat} {J J' : zI} (h : zFr s J J') : zFrJ J J' := ⟨fun b h1 h2 => h.1 b h1 (by omega), h.2.1⟩
theorem zEn_frS {s s' : Nat} {J J' : zI} {e : Int32 × Int32 × Int32 × Int32 × Int32} (h : zEn J s e) (h2 : zFrS s' J J') (hs : s < s') : zEn J' s e := by
  obtain ⟨h3, h4, h5, h6, h7⟩ := h
  exact ⟨by rw [h2 107 (by decide) (by decide) s hs]; exact h3, by rw [h2 108 (by decide) (by decide) s hs]; exact h4, by rw [h2 110 (by decide) (by decide) s hs]; exact h5, by rw [h2 109 (by decide) (by decide) s hs]; exact h6, by rw [h2 111 (by decide) (by decide) s hs]; exact h7⟩
section ZNB
variable {F : Nat} {K : zK} {I : zI} {R : zR} {J : zI} {RM : zR} {m t u o q i j c e : Nat} {T U : Tm}
/-- one hole's fill on both sides -/
theorem fill_both (hF : 200 ≤ F) (hM : zMk K R m) (h0 : R m 0 = some t) (h1 : R m 1 = some u) (hRM : zRM RM) (hq : q + 97 ≤ 5751) (hT : tWF T) (hU : tWF U) (hTc : zTc K I R t T) (hUc : zTc K I R u U) (hUm : zTm (J 90) q U) (hi : i < tn T) (hs : ts T i ≠ 0) (hfl : zFl T U I J m i) (he : I (m + 10) i = nI e) (hfi : tFill U (ts T i) j c e) {x3 : Int32} (hx3 : x3 = if ts T i = 2 then 1 else 0) :
    ∃ (v : Int32) (I' J' : zI), (v = 0 ∨ v = 1) ∧ f_X1_fill F K I R m (nI i) (nI j) (nI c) = some (v, I') ∧ f_X7_fills F zKm J RM 89 (nI q) (nI (tg T i)) x3 (nI j) (nI c) (nI e) = some (v, J') ∧ (∀ b, b < m + 11 ∨ m + 14 < b → I' b = I b) ∧ (∀ b, b < 112 ∨ 114 < b → J' b = J b) ∧ (v = 1 → zFl T U I' J' m (i + 1)) := by
  have hg : tg T i < 10 := by have := (hT.2.1 i hi).2.2.2.1 hs; omega
  have hs3 := (hT.2.1 i hi).1
  obtain ⟨hjc, hj2⟩ := tFill_le hU.1 (show ts T i = 1 ∨ ts T i = 2 ∨ ts T i = 3 by omega) hfi
  subst hx3
  have hmono : ∀ g, g < 10 → g ≠ tg T i → zFl1 T U I J m i g → zFl1 T U I J m (i + 1) g := fun g hg2 hne h => by
    rcases h with ⟨a, b, c⟩ | ⟨p, j', c', e', a, b⟩
    · refine Or.inl ⟨a, b, fun p hp hp2 => ?_⟩
      by_cases h : p = i
      · rw [h]; exact fun e => hne e.symm
      · exact c p (by omega) hp2
    · exact Or.inr ⟨p, j', c', e', by omega, b⟩
  rcases hfl _ hg with ⟨a1, a2, a3⟩ | ⟨p, a, d, e', p1, p2, p3, f3, f4, f5, f6, f7, f8, f9, f10⟩
  · refine ⟨1, _, _, Or.inr rfl, X1_fill_new hM h0 hT hTc hi hs a1, X7_fills_new hRM _ _ _ hg a2, fun b hb => ?_, fun b hb => ?_, fun _ g hg2 => ?_⟩
    · rw [zup_ne _ _ _ (by omega), zup_ne _ _ _ (by omega), zup_ne _ _ _ (by omega), zup_ne _ _ _ (by omega)]
    · rw [zup_ne _ _ _ (by omega), zup_ne _ _ _ (by omega), zup_ne _ _ _ (by omega)]
    · by_cases hgi : g = tg T i
      · subst hgi
        refine Or.inr ⟨i, j, c, e, by omega, hs, rfl, ?_, ?_, ?_, ?_, ?_, ?_, ?_, hfi⟩
        · rw [zup_nb _ _ _ (by omega), zup_nb _ _ _ (by omega), zup_nb _ _ _ (by omega), zup_self]
        · rw [zup_nb _ _ _ (by omega), zup_nb _ _ _ (by omega), zup_self]
        · rw [zup_nb _ _ _ (by omega), zup_self]
        · rw [zup_self]; exact he
        · rw [zup_nb _ _ _ (by omega), zup_nb _ _ _ (by omega), zup_self]
        · rw [zup_nb _ _ _ (by omega), zup_self]
        · rw [zup_self]
      · have hz : ∀ (f : zI) (b a : Nat) (v : Int32), zup f a (tg T i) v b g = f b g := fun f b a v => by unfold zup; rw [if_neg (fun h => hgi h.2)]
        have := hmono g hg2 hgi (hfl g hg2)
        unfold zFl1
        simp only [hz]
        exact this
  · have hsp : ts T p = ts T i := hT.2.2.1 p i (by omega) hi p2 hs p3
    rw [hsp] at f3 f10
    obtain ⟨hac, ha2⟩ := tFill_le hU.1 (show ts T i = 1 ∨ ts T i = 2 ∨ ts T i = 3 by omega) f10
    obtain ⟨v, hv, q1, q2⟩ := fill_old (F := F) (J := J) hF hM h0 h1 hRM hq hT hU hTc hUc hUm hi hs hjc hj2 f3 f4 f5 f7 f8 hac ha2 (nI e)
    refine ⟨v, I, J, hv, q1, q2, fun _ _ => rfl, fun _ _ => rfl, fun _ g hg2 => ?_⟩
    by_cases hgi : g = tg T i
    · subst hgi
      exact Or.inr ⟨p, a, d, e', by omega, p2, p3, by rw [hsp]; exact f3, f4, f5, f6, f7, f8, f9, by rw [hsp]; exact f10⟩
    · exact hmono g hg2 hgi (hfl g hg2)
theorem X5_sortOf_any (h : zTc K I R u U) (hU : tWF U) (hj : j < 1000) : ∃ v, f_X5_sortOf F K I R u (nI j) = some v := by
  by_cases h1 : j < tn U
  · exact ⟨_, X5_sortOf h hU h1⟩
  · refine ⟨-1, ?_⟩
    have hn := hU.1.2.1
    unfold f_X5_sortOf
    rw [if_neg (nI_pos (by omega)), h.2.2.2.2.2.2.2.1, if_pos (nI_le (by omega) (by omega))]
theorem X7_isAlike (hRM : zRM RM) (ho : o + 97 ≤ 5751) (hq : q + 97 ≤ 5751) (hT : tWF T) (hU : tWF U) (hTm : zTm (J 90) o T) (hUm : zTm (J 90) q U) (hi : i < tn T) (hj : j < tn U) : f_X7_isAlike F zKm J RM 89 (nI o) (nI i) (nI q) (nI j) = some (if ts T i = 0 ∧ ts U j = 0 ∧ tg T i = tg U j then 1 else 0) := by
  have r0 : RM 89 0 = some 90 := hRM 89 0 (by decide) (by decide) (by decide)
  have h1 := (hT.2.1 i hi)
  have h2 := (hU.2.1 j hj)
  have hn := hT.1.2.1
  have hn2 := hU.1.2.1
  have e0 : ∀ a, a ≤ 3 → (nI a = (0 : Int32) ↔ a = 0) := fun a ha => nI_eq (b := 0) (by omega) (by omega)
  unfold f_X7_isAlike
  rw [X7_sort r0 ho hTm hn hi, zbd_s, X7_sort r0 hq hUm hn2 hj, zbd_s, X7_number r0 ho hTm hn hi, zbd_s, X7_number r0 hq hUm hn2 hj, zbd_s]
  by_cases c1 : ts T i = 0
  · rw [if_pos ((e0 _ h1.1).mpr c1)]
    by_cases c2 : ts U j = 0
    · rw [if_pos ((e0 _ h2.1).mpr c2)]
      by_cases c3 : tg T i = tg U j
      · rw [if_pos (by rw [c3]), if_pos ⟨c1, c2, c3⟩]
      · have := h1.2.2.1 c1
        have := h2.2.2.1 c2
        rw [if_neg (fun e => c3 (nI_inj (by omega) (by omega) e)), if_neg (fun e => c3 e.2.2)]
    · rw [if_neg (fun e => c2 ((e0 _ h2.1).mp e)), if_neg (fun e => c2 e.2.1)]
  · rw [if_neg (fun e => c1 ((e0 _ h1.1).mp e)), if_neg (fun e => c1 e.1)]
end ZNB
/-- node p of the pattern waits at slot sl for its part of the term -/
def zNode (T U : Tm) (I J : zI) (m p sl : Nat) : Prop := ∃ j e, I (m + 9) p = nI j ∧ I (m + 10) p = nI e ∧ ((ts T p ≠ 3 ∧ e = 1 ∧ j < tn U ∧ zEn J sl (0, nI p, 0, nI j, 0)) ∨ (ts T p = 3 ∧ ∃ c, tSeg U j c e ∧ zEn J sl (1, nI p, nI e, nI j, nI c)))
def zStk (T U : Tm) (I J : zI) (m i s : Nat) : Prop := J 89 29 = nI s ∧ wk (tsp T) s i = tn T ∧ ∀ k, k < s → zNode T U I J m (wk (tsp T) k i) (s - 1 - k)
section ZNC
variable {F : Nat} {K : zK} {I : zI} {R : zR} {J : zI} {RM : zR} {m t u o q i j s : Nat} {T U : Tm}
/-- the arguments of one node on both sides -/
theorem place_both (hM : zMk K R m) (h0 : R m 0 = some t) (h1 : R m 1 = some u) (ht : 92 ≤ t) (hu : 92 ≤ u) (hRM : zRM RM) (hF : 200 ≤ F) (ho : o + 97 ≤ 5751) (hq : q + 97 ≤ 5751) (hT : tWF T) (hU : tWF U) (hTc : zTc K I R t T) (hUc : zTc K I R u U) (hTm : zTm (J 90) o T) (hUm : zTm (J 90) q U) (hi : i < tn T) (hj : j < tn U) (hs : J 89 29 = nI s) (hs2 : s + tr T i ≤ 160) (h93 : ∀ y, y < tn T → J 92 y = nI (tsp T y)) (h94 : ∀ y, y < tn U → J 93 y = nI (tsp U y)) :
    ∃ (v : Int32) (I' J' : zI), (v = 0 ∨ v = 1) ∧ f_X1_placeArguments F K I R m (nI i) (nI j) = some (v, I') ∧ f_X7_matchesArguments F zKm J RM 89 (nI o) (nI i) (nI q) (nI j) = some (v, J') ∧ (∀ b, b ≠ m + 9 → b ≠ m + 10 → I' b = I b) ∧ zFr s J J' ∧ (v = 1 → J' 89 29 = nI (s + tr T i) ∧ (∀ p, p ≤ i ∨ i + tsp T i ≤ p → I' (m + 9) p = I (m + 9) p ∧ I' (m + 10) p = I (m + 10) p) ∧ ∀ y, y < tr T i → zNode T U I' J' m (tc T i y) (s + (tr T i - 1 - y))) := by
  rcases X1_place (F := F) hM h0 h1 ht hu (by omega) hT hU hi hj hTc hUc with ⟨a1, a2⟩ | ⟨a1, I', b1, b2, b3, b4⟩
  · rcases X7_place (F := F) (J := J) hRM (by omega) ho hq hT hU hTm hUm hi hj hs hs2 h93 h94 with ⟨c1, c2⟩ | ⟨c1, -⟩
    · exact ⟨0, I, J, Or.inl rfl, a2, c2, fun _ _ _ => rfl, zFr_refl _ _, fun h => absurd h (by decide)⟩
    · exact absurd c1 a1
  · rcases X7_place (F := F) (J := J) hRM (by omega) ho hq hT hU hTm hUm hi hj hs hs2 h93 h94 with ⟨c1, -⟩ | ⟨-, J', d1, d2, d3, d4⟩
    · exact absurd a1 c1
    · refine ⟨1, I', J', Or.inr rfl, b1, d1, b2, d2, fun _ => ⟨d3, b4, fun y hy => ?_⟩⟩
      have st := zte_step a1 hy
      have le := zte_le a1 (tr T i - (y + 1)) (y + 1) (by omega)
      have en := d4 y hy
      refine ⟨tc U j (zte U T i j y), ztk U T i j y, (b3 y hy).1, (b3 y hy).2, ?_⟩
      unfold zAe at en
      by_cases h3 : ts T (tc T i y) = 3
      · rw [if_pos h3] at en
        refine Or.inr ⟨h3, _, ⟨j, zte U T i j y, hj, by omega, rfl, ?_⟩, en⟩
        have := tc_mono (T := U) (i := j) (show zte U T i j y ≤ zte U T i j y + ztk U T i j y by omega)
        omega
      · rw [if_neg h3] at en
        have h1 : ztk U T i j y = 1 := by
          unfold ztk
          cases hsq : sqO T i with
          | none => rfl
          | some g => exact if_neg (fun e => h3 (by rw [e]; exact (sqO_lt hsq).2))
        exact Or.inl ⟨h3, h1, (tc_lt hU.1 hj (by omega)).2.2, en⟩
end ZNC
