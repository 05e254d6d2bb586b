/-! lays() of the reference -/
/-- what a pass of lays() reads -/
def zLc (U : Tm) (I J : zI) (m q : Nat) (fs fj fc fe : Nat → Nat) : Prop := tWF U ∧ zTm (J 90) q U ∧ (∀ g, g < 10 → fs g ≠ 0 → J 100 g = nI (fs g)) ∧ (∀ y, y < tn U → J 93 y = nI (tsp U y)) ∧ zGG U I J m fs fj fc fe
def zLq (J J' : zI) : Prop := ∀ b, b < 115 ∨ 120 < b → J' b = J b
theorem zLc_q {U : Tm} {I J J' : zI} {m q : Nat} {fs fj fc fe : Nat → Nat} (h : zLc U I J m q fs fj fc fe) (hq : zLq J J') : zLc U I J' m q fs fj fc fe := by
  obtain ⟨a, b, c, d, e⟩ := h
  refine ⟨a, by rw [hq 90 (by omega)]; exact b, by rw [hq 100 (by omega)]; exact c, by rw [hq 93 (by omega)]; exact d, fun g hg => ?_⟩
  rw [hq 112 (by omega), hq 113 (by omega), hq 114 (by omega)]
  exact e g hg
theorem zLq_zup {J : zI} {a k : Nat} {v : Int32} (h : 115 ≤ a) (h2 : a ≤ 120) : zLq J (zup J a k v) := fun b hb => zup_ne _ _ _ (by omega)
theorem zLq_tr {J J' J'' : zI} (h : zLq J J') (h' : zLq J' J'') : zLq J J'' := fun b hb => (h' b hb).trans (h b hb)
def lEq (U : Tm) (fs fj fc : Nat → Nat) (h g : Nat) : Prop := g ≠ h ∧ sFil U fs fj fc h g
def lSb (U : Tm) (fs fj : Nat → Nat) (h : Nat) : Bool := (fs h == 1 && ts U (fj h) == 0 && (sqO U (fj h)).isNone) || (fs h == 2 && ts U (fj h) == 0)
def lIts (U : Tm) (fs fj : Nat → Nat) (h : Nat) : Int32 := if lSb U fs fj h = true then nI (tg U (fj h)) else -9
def lWid (U : Tm) (fs fj : Nat → Nat) (h : Nat) : Int32 := if lSb U fs fj h = true then (if fs h = 2 then 0 else nI (tr U (fj h))) else 0
def lVan (fs fc : Nat → Nat) (h : Nat) : Prop := fs h = 3 ∧ fc h = 0
def lBef (U : Tm) (fs fj fc : Nat → Nat) (h : Nat) : Prop := fs h = 3 ∧ 0 < fc h ∧ ts U (fj h) ≠ 3
def lBeh (U : Tm) (fs fj fc fe : Nat → Nat) (h : Nat) : Prop := fs h = 3 ∧ 0 < fc h ∧ ts U (lastU U fj fe h) ≠ 3
def lS (fs : Nat → Nat) (h : Nat) : Int32 := if fs h = 0 then -9 else nI (fs h)
def lX (fs : Nat → Nat) (h : Nat) : Int32 := if fs h = 3 then 1 else 0
section ZLA
variable {F : Nat} {J : zI} {RM : zR} {q m h g : Nat} {U : Tm} {I : zI} {fs fj fc fe : Nat → Nat} {x3 : Int32} {k10 : zI → Int32 → Int32 → Int32 → Option zI}
theorem zLc_at (hL : zLc U I J m q fs fj fc fe) (hh : h < 10) (h0 : fs h ≠ 0) : (fs h = 1 ∨ fs h = 2 ∨ fs h = 3) ∧ J 112 h = nI (fj h) ∧ J 113 h = nI (fc h) ∧ J 114 h = nI (fe h) ∧ tFill U (fs h) (fj h) (fc h) (fe h) ∧ fj h + fc h ≤ tn U := by
  obtain ⟨hU, -, -, -, hG⟩ := hL
  obtain ⟨a1, -, -, -, -, a6, a7, a8, a9, a10, -⟩ := zh_bounds hU hG hh h0
  exact ⟨a1, a6, a7, a8, a9, a10⟩
theorem X7_lastSort (hRM : zRM RM) (hF : 200 ≤ F) (hq : q + 97 ≤ 5751) (hL : zLc U I J m q fs fj fc fe) (hh : h < 10) (h3 : fs h = 3) (hc : 0 < fc h) : f_X7_lastSort F zKm J RM 89 (nI q) (nI h) = some (nI (ts U (lastU U fj fe h))) := by
  have r0 : RM 89 0 = some 90 := hRM 89 0 (by decide) (by decide) (by decide)
  have r6 : RM 89 6 = some 93 := hRM 89 6 (by decide) (by decide) (by decide)
  have r30 : RM 89 30 = some 112 := hRM 89 30 (by decide) (by decide) (by decide)
  have r31 : RM 89 31 = some 113 := hRM 89 31 (by decide) (by decide) (by decide)
  obtain ⟨a1, a2, a3, a4, a5, a6⟩ := zLc_at hL hh (by omega)
  obtain ⟨hU, hUm, -, h94, -⟩ := hL
  have hn := hU.1.2.1
  have hsg := a5.2.2 h3
  have he : 0 < fe h := by
    rcases Nat.eq_zero_or_pos (fe h) with e | e
    · have := (tSeg_0 hU.1 hsg).mp e; omega
    · exact e
  have hlast := tSeg_last hU.1 hsg he
  obtain ⟨p, x, s1, s2, s3, s4⟩ := hsg
  have e1 : ∀ k, wk (tsp U) k (fj h) = tc U p (x + k) := fun k => by rw [s3]; exact (wk_add _ _ _ _).symm
  have key : ∀ (d k f l : Nat), k + d = fe h → d < f → (d = 0 → l = lastU U fj fe h) → l < tn U → f_X7_lastSort_10 F zKm J RM 89 f (nI q) (nI h) (nI (wk (tsp U) k (fj h))) (nI l) = some (nI (ts U (lastU U fj fe h))) := by
    intro d
    induction d with
    | zero =>
      intro k f l hk hf hl hl2
      obtain ⟨f, rfl⟩ : ∃ g, f = g + 1 := ⟨f - 1, by omega⟩
      show g_X7_lastSort_10 F zKm J RM 89 _ (nI q) (nI h) _ _ = _
      unfold g_X7_lastSort_10
      rw [r30, zbd_s, zdr_s (t := 1) rfl, zbd_s, zrd_s (by show h < 10; exact hh) (by decide), zbd_s, a2, r31, zbd_s, zdr_s (t := 1) rfl, zbd_s, zrd_s (by show h < 10; exact hh) (by decide), zbd_s, a3, nI_add, if_pos (nI_le (by rw [e1, s4, show x + fe h = x + k by omega]; exact Nat.le_refl _) (by rw [e1, show x + k = x + fe h by omega, ← s4]; omega)), X7_sort r0 hq hUm hn hl2, zbd_s, hl rfl]
    | succ d ih =>
      intro k f l hk hf hl hl2
      obtain ⟨f, rfl⟩ : ∃ g, f = g + 1 := ⟨f - 1, by omega⟩
      have hlt : wk (tsp U) k (fj h) < fj h + fc h := by rw [e1, s4]; exact tc_lt' hU.1 (by omega)
      show g_X7_lastSort_10 F zKm J RM 89 (f_X7_lastSort_10 F zKm J RM 89 f) (nI q) (nI h) _ _ = _
      unfold g_X7_lastSort_10
      rw [r30, zbd_s, zdr_s (t := 1) rfl, zbd_s, zrd_s (by show h < 10; exact hh) (by decide), zbd_s, a2, r31, zbd_s, zdr_s (t := 1) rfl, zbd_s, zrd_s (by show h < 10; exact hh) (by decide), zbd_s, a3, nI_add, if_neg (nI_ge (by omega) (by omega)), r6, zbd_s, zdr_s (t := 1) rfl, zbd_s, zrd_s (by show _ < 32; omega) (by decide), zbd_s, h94 _ (by omega), zbd_s, nI_add, ← wk_succ]
      exact ih (k + 1) f _ (by omega) (by omega) (fun e => by unfold lastU; rw [show fe h - 1 = k by omega]) (by omega)
  have := key (fe h) 0 F (fj h) (by omega) (by have := hlast; have := wk_ge hU.1 (fe h - 1) (fj h); omega) (fun e => by omega) hlast.1
  unfold f_X7_lastSort
  rw [r30, zbd_s, zdr_s (t := 1) rfl, zbd_s, zrd_s (by show h < 10; exact hh) (by decide), zbd_s, a2]
  exact this
theorem tSame_sym {U : Tm} {i j c : Nat} (h : tSame U i U j c) : tSame U j U i c := fun k hk => ⟨(h k hk).1.symm, (h k hk).2.1.symm, (h k hk).2.2.symm⟩
theorem X7_isLike (hRM : zRM RM) (hF : 200 ≤ F) (hq : q + 97 ≤ 5751) (hL : zLc U I J m q fs fj fc fe) (hh : h < 10) (hg : g < 10) (h0 : fs h ≠ 0) (hs : fs g = fs h) : ∃ v : Int32, f_X7_isLike F zKm J RM 89 (nI q) (nI h) (nI g) (nI (fs h)) = some v ∧ ((v = 0 ∧ ¬ sFil U fs fj fc h g) ∨ (v = 1 ∧ sFil U fs fj fc h g)) := by
  have r0 : RM 89 0 = some 90 := hRM 89 0 (by decide) (by decide) (by decide)
  have r30 : RM 89 30 = some 112 := hRM 89 30 (by decide) (by decide) (by decide)
  have r31 : RM 89 31 = some 113 := hRM 89 31 (by decide) (by decide) (by decide)
  obtain ⟨a1, a2, a3, a4, a5, a6⟩ := zLc_at hL hh h0
  obtain ⟨b1, b2, b3, b4, b5, b6⟩ := zLc_at hL hg (by omega)
  obtain ⟨hU, hUm, -, -, -⟩ := hL
  have hn := hU.1.2.1
  unfold f_X7_isLike sFil
  rw [r30, r31]
  simp only [zbd_s, zdr_s (show (zKm 112).1 = 1 from rfl), zdr_s (show (zKm 113).1 = 1 from rfl), zrd_s (K := zKm) (I := J) (a := 112) (j := h) (by show h < 10; exact hh) (by decide), zrd_s (K := zKm) (I := J) (a := 112) (j := g) (by show g < 10; exact hg) (by decide), zrd_s (K := zKm) (I := J) (a := 113) (j := h) (by show h < 10; exact hh) (by decide), zrd_s (K := zKm) (I := J) (a := 113) (j := g) (by show g < 10; exact hg) (by decide), a2, a3, b2, b3]
  by_cases h2 : fs h = 2
  · obtain ⟨c1, c2, c3, -⟩ := a5.2.1 h2
    obtain ⟨d1, d2, d3, -⟩ := b5.2.1 (by omega)
    obtain ⟨w1, -, w3, w4, -⟩ := hU.2.1 _ c1
    obtain ⟨z1, -, z3, z4, -⟩ := hU.2.1 _ d1
    have t1 : tg U (fj h) ≤ 12 := by
      by_cases h0 : ts U (fj h) = 0
      · exact w3 h0
      · have := w4 h0; omega
    have t2 : tg U (fj g) ≤ 12 := by
      by_cases h0 : ts U (fj g) = 0
      · exact z3 h0
      · have := z4 h0; omega
    rw [if_pos ((ni2 (by omega)).mpr h2), X7_sort r0 hq hUm hn c1, zbd_s, X7_sort r0 hq hUm hn d1, zbd_s, X7_number r0 hq hUm hn c1, zbd_s, X7_number r0 hq hUm hn d1, zbd_s, if_pos h2]
    by_cases e1 : ts U (fj h) = ts U (fj g)
    · rw [if_pos (by rw [e1])]
      by_cases e2 : tg U (fj h) = tg U (fj g)
      · exact ⟨1, by rw [if_pos (by rw [e2])], Or.inr ⟨rfl, h0, hs.symm, by omega, e1, e2⟩⟩
      · exact ⟨0, by rw [if_neg (fun e => e2 (nI_inj (by omega) (by omega) e))], Or.inl ⟨rfl, fun e => e2 e.2.2.2.2⟩⟩
    · exact ⟨0, by rw [if_neg (fun e => e1 (nI_inj (by omega) (by omega) e))], Or.inl ⟨rfl, fun e => e1 e.2.2.2.1⟩⟩
  · rw [if_neg (fun e => h2 ((ni2 (by omega)).mp e)), if_neg h2]
    by_cases hc : fc h = fc g
    · rw [if_pos (by rw [hc])]
      obtain ⟨r, e1, e2⟩ := X7_isSame (F := F) r0 hF hq hq hU hU hUm hUm a6 (show fj g + fc h ≤ tn U by omega)
      rw [e1, zbd_s]
      rcases e2 with ⟨rfl, e2⟩ | ⟨rfl, e2⟩
      · exact ⟨1, rfl, Or.inr ⟨rfl, h0, hs.symm, hc, e2⟩⟩
      · exact ⟨0, rfl, Or.inl ⟨rfl, fun e => e2 e.2.2.2⟩⟩
    · exact ⟨0, by rw [if_neg (fun e => hc (nI_inj (by omega) (by omega) e))], Or.inl ⟨rfl, fun e => hc e.2.2.1⟩⟩
end ZLA
