/-! THE GHOST PUTS a printed term; the class's put; the law's puts -/
section ZPU
variable {F n : Nat} {K : zK} {I J : zI} {R RM : zR} {S : gSt} {c : Nat → Int32} {G : aFo}
/-- one root -/
theorem r_root (hRM : zRM RM) {b f : Nat} (hb : b = (prF G).length) (h80 : b ≤ 80) (h1 : qLn G = 1) (h2 : qHt G ≤ 6) (h3 : qSz G ≤ 14) (hN : dN G) {s g r o : Nat → Nat} (hP : aPm J b 0 s g r 0 o r0f r0f 0) (h14 : J 89 14 = 1) (htx : tA (J 91) b 0 (prF G)) (hf : b + 2 ≤ f) : ∃ J', f_X7_reads_54 F zKm RM 89 f J 1 = some (1, J') ∧ zTm (J' 90) 5460 (tmF G) ∧ J' 89 4 = J 89 4 ∧ aFm J J' := by
  have f91 : ∀ {J J' : zI}, aFm J J' → J' 91 = J 91 := fun h => h.1 91 (by decide) (by decide) (by decide) (by decide) (by decide)
  -- at the end
  have fin : ∀ (f : Nat) (J' : zI) (s g r : Nat → Nat), 2 ≤ f → aPm J' b (qSz G) s g r 0 o r0f r0f b → J' 89 14 = 0 → J' 89 4 = J 89 4 → aFm J J' → (∀ (j : Nat) (v : Nat × Nat), (qLi G)[j]? = some v → s j = 0 ∧ g j = v.1 ∧ r j = v.2) → ∃ J9, f_X7_reads_54 F zKm RM 89 f J' 1 = some (1, J9) ∧ zTm (J9 90) 5460 (tmF G) ∧ J9 89 4 = J 89 4 ∧ aFm J J9 := by
    intro f J' s g r hf hPP h14 h4 hF sp
    obtain ⟨⟨a1, a2, a3⟩, b1, -⟩ := hPP
    obtain ⟨f, rfl⟩ : ∃ y, f = y + 1 + 1 := ⟨f - 2, by omega⟩
    refine ⟨J', ?_, gRow_tm ⟨by rw [qLi_len]; exact b1.1, fun i v hv => ?_⟩, h4, hF⟩
    · show g_X7_reads_54 F zKm RM 89 (f_X7_reads_54 F zKm RM 89 (f + 1)) J' 1 = _
      unfold g_X7_reads_54
      rw [if_neg (by decide), h14, if_pos rfl, a2, if_pos (show nI 0 = (0 : Int32) from rfl)]
      show g_X7_reads_54 F zKm RM 89 (f_X7_reads_54 F zKm RM 89 f) J' 0 = _
      unfold g_X7_reads_54 f_X7_reads_191
      rw [if_pos rfl, a3, a1, if_pos rfl]
    · obtain ⟨c1, c2, c3⟩ := sp i v hv
      obtain ⟨d1, d2⟩ := dN_li hN i v hv
      have hi : i < qSz G := by have := (List.getElem?_eq_some_iff.mp hv).1; rw [qLi_len] at this; exact this
      obtain ⟨e1, e2, e3⟩ := b1.2 i hi
      have e1 : J' 90 (5460 + 1 + 3 * i) = nI (s i) := e1
      have e2 : J' 90 (5460 + 2 + 3 * i) = nI (g i) := e2
      have e3 : J' 90 (5460 + 3 + 3 * i) = nI (r i) := e3
      rw [e1, e2, e3, c1, c2, c3, show v.1 / 16 = 0 by omega, show v.1 % 16 = v.1 by omega]
      exact ⟨rfl, rfl, rfl⟩
  cases G with
  | leaf _ => cases h1
  | branch w k q =>
    have hq : qLn q = 0 := by rw [qLn] at h1; omega
    have hq0 := qLn_0 hq
    obtain ⟨⟨hw, hk3⟩, nk, nq⟩ := hN
    have hli : qLi q = [] := by
      have := qLi_len q
      rw [hq0] at this
      exact List.length_eq_zero_iff.mp this
    rw [qHt] at h2
    rw [qSz] at h3
    rw [prF, if_pos hq, List.append_nil] at htx hb
    rw [List.length_cons] at hb
    obtain ⟨c1, c2, c3⟩ := tA_c htx
    rw [Nat.zero_add] at c3
    obtain ⟨f, rfl⟩ : ∃ y, f = y + 1 := ⟨f - 1, by omega⟩
    obtain ⟨hA, hB⟩ := r_head (F := F) hRM hP h80 c1 (fun i hi => absurd hi (Nat.not_lt_zero _)) (fun i hi => absurd hi (Nat.not_lt_zero _)) (fun h => absurd h (Nat.lt_irrefl _)) (by decide) (by decide) h14 hw c2 f
    simp only [Nat.zero_add] at hA hB
    have fnn : aUp s 0 0 0 = 0 ∧ aUp g 0 w 0 = w ∧ aRn r 0 0 o 0 = 0 := ⟨aUp_self _ _ _, aUp_self _ _ _, aRn_n⟩
    by_cases ck : qLn k = 0
    · have zk := qLn_0 ck
      rw [if_pos ck, List.length_nil] at hb
      obtain ⟨J2, e2, P2, j14, j4, F2⟩ := hB (by unfold aBm; rw [if_neg (by omega)]; decide)
      have := fin f J2 _ _ _ (by omega) (by rw [qSz, zk, hq0, show b = 1 by omega]; rw [show b = 1 by omega] at P2; exact P2) j14 j4 F2 (fun j v hv => by
        rw [qLi, hli, List.append_nil] at hv
        have hl := (List.getElem?_eq_some_iff.mp hv).1
        rw [List.length_cons, qLi_len, zk] at hl
        obtain rfl : j = 0 := by omega
        cases hv
        exact ⟨fnn.1, fnn.2.1, by rw [fnn.2.2, ck]⟩)
      obtain ⟨J', z⟩ := this
      exact ⟨J', by rw [e2]; exact z.1, z.2⟩
    · rw [if_neg ck] at c3 hb
      have lk : (40 :: (prF k ++ [41])).length = (prF k).length + 2 := by rw [List.length_cons, List.length_append, List.length_singleton]
      rw [lk] at hb
      obtain ⟨d1, d2, d3⟩ := tA_c c3
      obtain ⟨d4, d5⟩ := tA_a d3
      obtain ⟨d6, d7, -⟩ := tA_c d5
      obtain ⟨J2, e2, P2, j14, j4, F2⟩ := hA (by rw [d2]; rfl)
      have oD : aUp o 0 0 (0 + 1 - 1) = 0 := aUp_self _ _ _
      obtain ⟨f', J3, s2, g2, r2, y1, y2, y3, y4, y5, y6, y7⟩ := r_forest (F := F) hRM h80 k 1 1 2 f (aUp s 0 0) (aUp g 0 w) (aRn r 0 0 o) (aUp o 0 0) J2 ck nk (by decide) (by omega) (by omega) (fun x hx => by
        obtain rfl : x = 0 := by omega
        rw [aUp_self]; decide) (fun i hi => by
        obtain rfl : i = 0 := by omega
        rw [fnn.1, fnn.2.1, fnn.2.2]; exact ⟨rfl, by omega, by omega⟩) (by rw [oD, fnn.2.2]; omega) P2 j14 (by rw [f91 F2]; exact d4) (by rw [f91 F2, show 2 + (prF k).length = 1 + 1 + (prF k).length by omega, d7]; decide) (by omega)
      rw [oD] at y7
      obtain ⟨f', rfl⟩ : ∃ y, f' = y + 1 := ⟨f' - 1, by omega⟩
      obtain ⟨J4, e4, P4, m14, m4, F4⟩ := r_close (F := F) (D := 0) hRM y3 h80 (by omega) (by omega) y4 (by rw [f91 y6, f91 F2, show 2 + (prF k).length = 1 + 1 + (prF k).length by omega, d7]; rfl) f'
      have := fin f' J4 s2 g2 r2 (by omega) (by
        rw [qSz, hq0, Nat.add_zero, show b = 2 + (prF k).length + 1 by omega]
        rw [show b = 2 + (prF k).length + 1 by omega] at P4
        exact aPm_o P4 (fun x hx => absurd hx (Nat.not_lt_zero _))) m14 (by rw [m4, y5, j4]) (aFm_tr F2 (aFm_tr y6 F4)) (fun j v hv => by
        rw [qLi, hli, List.append_nil] at hv
        cases j with
        | zero =>
          cases hv
          obtain ⟨a1, a2, a3⟩ := y7.1 0 (by decide)
          rw [if_pos rfl, fnn.2.2, Nat.zero_add] at a3
          exact ⟨a1.trans fnn.1, a2.trans fnn.2.1, a3⟩
        | succ j =>
          rw [List.getElem?_cons_succ] at hv
          have := y7.2 j v hv
          rw [Nat.add_comm 1 j] at this
          exact this)
      obtain ⟨J', z⟩ := this
      exact ⟨J', by rw [e2, y2, e4]; exact z.1, z.2⟩
theorem X7_reads_ok (hF : 5000 ≤ F) (hRM : zRM RM) (h1 : qLn G = 1) (h2 : qHt G ≤ 6) (h3 : qSz G ≤ 14) (hN : dN G) (hl : J 89 3 = nI (prF G).length) (htx : ∀ (i x : Nat), (prF G)[i]? = some x → J 91 i = nI x) : ∃ J', f_X7_reads F zKm J RM 89 = some (1, J') ∧ zTm (J' 90) 5460 (tmF G) ∧ aFm J J' := by
  have r0 : RM 89 0 = some 90 := hRM 89 0 (by decide) (by decide) (by decide)
  have pl := prF_len G
  obtain ⟨J0, hJ0⟩ : ∃ x : zI, x = zup (zup (zrw (zup (zup (zup J 90 5460 0) 89 12 0) 89 13 0) 96 0 10 (fun _ => (0 : Int32))) 98 0 0) 89 14 1 := ⟨_, rfl⟩
  have eJ : f_X7_reads F zKm J RM 89 = f_X7_reads_54 F zKm RM 89 F J0 1 := by
    have e21 := X7_reads21 (F := F) hRM 10 0 F (zup (zup (zup J 90 5460 0) 89 12 0) 89 13 0) (by omega) (by omega)
    rw [← hJ0] at e21
    unfold f_X7_reads
    rw [r0, zbd_s, zd91, zbd_s, show (5460 : Int32) = nI 5460 from rfl, zwr_s (by rw [zKm91]; decide) (by decide), zbd_s, zbd_s, zbd_s]
    exact e21
  have u90 : ∀ y, y ≠ 12 → y ≠ 13 → y ≠ 14 → J0 89 y = J 89 y := fun y y1 y2 y3 => by
    rw [hJ0, zup_self_ne _ _ _ y3, zup_ne _ _ _ (by decide), zrw_ne _ _ _ _ (by decide), zup_self_ne _ _ _ y2, zup_self_ne _ _ _ y1, zup_ne _ _ _ (by decide)]
  have uJ : ∀ x, x ≠ 89 → x ≠ 90 → x ≠ 96 → x ≠ 98 → J0 x = J x := fun x x1 x2 x3 x4 => by
    rw [hJ0, zup_ne _ _ _ x1, zup_ne _ _ _ x4, zrw_ne _ _ _ _ x3, zup_ne _ _ _ x1, zup_ne _ _ _ x1, zup_ne _ _ _ x2]
  have u91 : J0 90 = zup J 90 5460 0 90 := by rw [hJ0, zup_ne _ _ _ (by decide), zup_ne _ _ _ (by decide), zrw_ne _ _ _ _ (by decide), zup_ne _ _ _ (by decide), zup_ne _ _ _ (by decide)]
  have F0 : aFm J J0 := ⟨fun x x1 x2 x3 _ x5 => uJ x x1 x2 x3 x5, fun y hy => by rw [u91, zup_self_ne _ _ _ (by omega)], fun y hy => u90 y (by omega) (by omega) (by omega)⟩
  have hP : aPm J0 (prF G).length 0 r0f r0f r0f 0 r0f r0f r0f 0 := by
    refine ⟨⟨?_, ?_, ?_⟩, ⟨?_, fun i hi => absurd hi (Nat.not_lt_zero _)⟩, fun k h => absurd h (Nat.not_lt_zero _), ?_, fun k h => absurd h (Nat.not_lt_zero _), fun h hh => ?_⟩
    · rw [u90 3 (by decide) (by decide) (by decide)]; exact hl
    · rw [hJ0, zup_self_ne _ _ _ (by decide), zup_ne _ _ _ (by decide), zrw_ne _ _ _ _ (by decide), zup_self_ne _ _ _ (by decide), zup_self]; rfl
    · rw [hJ0, zup_self_ne _ _ _ (by decide), zup_ne _ _ _ (by decide), zrw_ne _ _ _ _ (by decide), zup_self]; rfl
    · rw [u91, zup_self]; rfl
    · rw [hJ0, zup_ne _ _ _ (by decide), zup_self]
    · rw [hJ0, zup_ne _ _ _ (by decide), zup_ne _ _ _ (by decide), zrw_in _ _ _ (Nat.zero_le _) hh]; rfl
  obtain ⟨J', a1, a2, -, a4⟩ := r_root (F := F) (f := F) hRM rfl (by omega) h1 h2 h3 hN hP (by rw [hJ0, zup_self]) (fun j x hx => by
    rw [Nat.zero_add, uJ 91 (by decide) (by decide) (by decide) (by decide)]
    exact ⟨(List.getElem?_eq_some_iff.mp hx).1, htx j x hx⟩) (by omega)
  exact ⟨J', by rw [eJ]; exact a1, a2, aFm_tr F0 a4⟩
theorem aBt_0 (v : Nat) : ¬ aBt 0 v := by
  unfold aBt
  rw [Int32.zero_shiftRight, Int32.zero_and]
  decide
theorem qFl_id0 (hL : ∀ u, G ≠ .leaf u) : qFl (fun _ => false) 9 0 G = G := q_fl_id (fb := fun _ => false) G 9 0 (fun i _ h => by
  have := h.2.2.2.2
  cases this)
/-- nothing is to be sorted -/
theorem X7_sortsAll0 (hF : 200 ≤ F) (hRM : zRM RM) (hT : tSh (tmF G)) (hr : ∀ i, i < tn (tmF G) → tr (tmF G) i ≤ 32) : ∀ (m f : Nat) (J : zI), m ≤ qSz G → m < f → J 90 779 = 0 → zTm (J 90) 5460 (tmF G) → ∃ J', f_X7_sortsAll_11 F zKm RM 89 f J (nI m + (-1 : Int32)) = some J' ∧ ∀ b, b ≠ 92 → J' b = J b := by
  have r0 : RM 89 0 = some 90 := hRM 89 0 (by decide) (by decide) (by decide)
  have r5 : RM 89 5 = some 92 := hRM 89 5 (by decide) (by decide) (by decide)
  have h32 : tn (tmF G) ≤ 32 := hT.2.1
  intro m
  induction m with
  | zero =>
    intro f J _ hf _ _
    obtain ⟨f, rfl⟩ : ∃ y, f = y + 1 := ⟨f - 1, by omega⟩
    refine ⟨J, ?_, fun _ _ => rfl⟩
    show g_X7_sortsAll_11 F zKm RM 89 _ J _ = _
    unfold g_X7_sortsAll_11
    rw [if_pos (by decide)]
  | succ m ih =>
    intro f J hm hf h0 hTm
    obtain ⟨f, rfl⟩ : ∃ y, f = y + 1 := ⟨f - 1, by omega⟩
    have hm' : m < tn (tmF G) := by show m < qSz G; omega
    have q1 : ∀ b, b ≠ 92 → zrw J 92 0 (tn (tmF G)) (fun j => nI (tsp (tmF G) j)) b = J b := fun b hb => zrw_ne _ _ _ _ hb
    have hT1 : zTm (zrw J 92 0 (tn (tmF G)) (fun j => nI (tsp (tmF G) j)) 90) 5460 (tmF G) := by rw [q1 90 (by decide)]; exact hTm
    obtain ⟨J', e1, e2⟩ := ih f (zrw J 92 0 (tn (tmF G)) (fun j => nI (tsp (tmF G) j))) (by omega) (by omega) (by rw [q1 90 (by decide)]; exact h0) hT1
    refine ⟨J', ?_, fun b hb => by rw [e2 b hb, q1 b hb]⟩
    show g_X7_sortsAll_11 F zKm RM 89 (f_X7_sortsAll_11 F zKm RM 89 f) J _ = _
    unfold g_X7_sortsAll_11 f_X7_sortsAll_75
    rw [nI_m1, if_neg (nI_pos (by omega)), r5, zbd_s, show (5460 : Int32) = nI 5460 from rfl, X7_counts (by omega) r0 (by decide) rfl (by decide) hT hr hTm, zbd_s, X7_sort r0 (by decide) hT1 h32 hm', zbd_s, X7_number r0 (by decide) hT1 h32 hm', zbd_s]
    rw [show (3 : Int32) = nI 3 from rfl, (X7_isSet (F := F) (J := zrw J 92 0 (tn (tmF G)) (fun j => nI (tsp (tmF G) j))) (k := 3) (v := tg (tmF G) m) hRM (by decide)).2 (by
      rw [q1 90 (by decide), show 776 + 3 = 779 from rfl, h0]; exact aBt_0 _), zbd_s, if_pos rfl, e1]
    by_cases e : nI (ts (tmF G) m) = 0
    · rw [if_pos e]
    · rw [if_neg e]
theorem g_put (hF : 5000 ≤ F) (hRM : zRM RM) (hb : gBl (J 90) 0 S c) (hh : gHi J []) (hc2 : c 2 = 0) (hc3 : c 3 = 0) {r : Nat} (hr : r < 8) (h1 : qLn G = 1) (h2 : qHt G ≤ 6) (h3 : qSz G ≤ 14) (hN : dN G) (hl : J 89 3 = nI (prF G).length) (htx : ∀ (i x : Nat), (prF G)[i]? = some x → J 91 i = nI x) : ∃ J1, f_X7_put F zKm J RM 89 (nI r) = some (nI (qSz G), J1) ∧ gBl (J1 90) 0 (gUp S r (some G)) c ∧ gHi J1 [] := by
  obtain ⟨gG, -⟩ := dN_gGd h1 h2 h3 hN
  obtain ⟨-, -, nS, nW, -⟩ := dN_good G hN
  have hL : ∀ u, G ≠ .leaf u := fun u e => by rw [e] at h1; cases h1
  obtain ⟨J4, hJ4⟩ : ∃ y : zI, y = zup J 89 4 (-9 : Int32) := ⟨_, rfl⟩
  have j4 : ∀ x, x ≠ 89 → J4 x = J x := fun x hx => by rw [hJ4, zup_ne _ _ _ hx]
  have j49 : ∀ y, y ≠ 4 → J4 89 y = J 89 y := fun y hy => by rw [hJ4, zup_self_ne _ _ _ hy]
  obtain ⟨J6, a1, a2, a3⟩ := X7_reads_ok (J := J4) hF hRM h1 h2 h3 hN (by rw [j49 3 (by decide)]; exact hl) (fun i x hx => by rw [j4 91 (by decide)]; exact htx i x hx)
  have p6 : ∀ q, q < 5460 → J6 90 q = J 90 q := fun q hq => by rw [a3.2.1 q (Or.inl hq), j4 90 (by decide)]
  have hsm : aSm G := fun y hy => by
    obtain ⟨w1, w2, w3, -⟩ := q_fW_at G nW y hy
    refine ⟨w1, ?_⟩
    by_cases h0 : (qNd G y).1 = 0
    · exact w2 h0
    · have := w3 h0; omega
  have s778 : J6 90 778 = 0 := by rw [p6 778 (by decide)]; exact (gBl_c hb (k := 2) (by decide)).trans hc2
  obtain ⟨J9, m1, m2, m3, m4⟩ := X7_flattens (F := F) (J := J6) (fb := fun _ => false) (by omega) hRM h1 (by omega) hsm a2 (fun v => by
    rw [s778]
    exact ⟨fun h => absurd h (by decide), fun h => absurd h (aBt_0 v)⟩)
  rw [qFl_id0 hL] at m2
  obtain ⟨xs, J12, s1, s2, s3, s4⟩ := X7_isSound (F := F) (J := J9) (by omega) hRM h1 (by omega) hsm m2
  have hxs : xs ≠ 0 := fun e => by rw [s3.mpr nS] at e; exact absurd e (by decide)
  have m12 : zTm (J12 90) 5460 (tmF G) := by rw [s4 90 (by decide)]; exact m2
  have p12 : ∀ q, q < 5460 → J12 90 q = J 90 q := fun q hq => by rw [s4 90 (by decide), m4 q (Or.inl hq), p6 q hq]
  have hT := q_tSh_f h1 (show qSz G ≤ 32 by omega)
  obtain ⟨J15, b1, b2⟩ := X7_sortsAll0 (F := F) (by omega) hRM hT (fun i hi => by
    have := q_nd_len G i hi
    rw [q_tr_f]
    omega) (qSz G) F J12 (Nat.le_refl _) (by omega) (by rw [p12 779 (by decide)]; exact (gBl_c hb (k := 3) (by decide)).trans hc3) m12
  have p15 : ∀ q, q < 5460 → J15 90 q = J 90 q := fun q hq => by rw [b2 90 (by decide), p12 q hq]
  have h891 : J15 89 1 = J 89 1 := by rw [b2 89 (by decide), s4 89 (by decide), m3 89 (by decide) (by decide) (by decide) (by decide), a3.2.2 1 (Or.inl rfl), j49 1 (by decide)]
  obtain ⟨J1, k1, k2, k3⟩ := g_keep (J := J15) (fr := 5460) hF hRM (gBl_keep hb (fun q hq => by rw [Nat.zero_add]; exact p15 q (by omega))) (gHi_keep hh h891 (fun q _ hq => p15 q hq)) (Nat.le_refl _) (by decide) hr gG (by rw [b2 90 (by decide)]; exact m12)
  refine ⟨J1, ?_, k2, k3⟩
  have r0 : RM 89 0 = some 90 := hRM 89 0 (by decide) (by decide) (by decide)
  have es : f_X7_sortsAll F zKm J12 RM 89 = some J15 := by
    unfold f_X7_sortsAll
    rw [r0, zbd_s, zd91, zbd_s, show (5460 : Int32) = nI 5460 from rfl, zrd_s (by rw [zKm91]; decide) (by decide), zbd_s, m12.1, zbd_s]
    rw [show nI (tn (tmF G)) - (1 : Int32) = nI (qSz G) + (-1 : Int32) from Int32.sub_eq_add_neg ..]
    exact b1
  unfold f_X7_put
  rw [X7_reg hr, zbd_s, if_neg (by decide), zbd_s, ← hJ4, a1, zbd2_s, if_neg (by decide), m1, zbd_s, s1, zbd2_s, if_neg hxs, es, zbd_s]
  exact k1
/-- put, on the program's side -/
theorem c_put (hF : 5000 ≤ F) (h : cT K I R n S c (prF G)) (hc2 : c 2 = 0) (hc3 : c 3 = 0) {r : Nat} (hr : r < 8) (h1 : qLn G = 1) (h2 : qHt G ≤ 6) (h3 : qSz G ≤ 14) (hN : dN G) : ∃ n1 K1 I1 R1, f_X6_put F n K I R 0 (nI r) = some (nI (qSz G), n1, K1, I1, R1) ∧ cS K1 I1 R1 n1 (gUp S r (some G)) c [] ∧ (∀ b, b < n → K1 b = K b) ∧ ∀ b, 89 ≤ b → b < 92 → I1 b = I b := by
  obtain ⟨J, RM, a1, a2, a3, a4, a5⟩ := h
  obtain ⟨v, n1, K1, I1, R1, J1, e1, e2, e3, e4, e5⟩ := step_putF F hF 0 K I R n zKm J RM (nI r) a1
  obtain ⟨J2, b1, b2, b3⟩ := g_put hF (zSim_ctx a1).2.1 a2 a3 hc2 hc3 hr h1 h2 h3 hN a4 a5
  have := pSome e2 b1
  simp only [Prod.mk.injEq] at this
  obtain ⟨rfl, rfl⟩ := this
  exact ⟨n1, K1, I1, R1, e1, ⟨J1, RM, e3, b2, b3⟩, e4, e5⟩
/-- THE LAW'S puts -/
theorem l_puts (hF : 5000 ≤ F) (h : cS K I R n S c []) (hc2 : c 2 = 0) (hc3 : c 3 = 0) {r a : Nat} (hr : r < 8) (hKa : K a = (1, 63)) (ha : 89 ≤ a) (ha2 : a < 92) (h1 : qLn G = 1) (h2 : qHt G ≤ 6) (h3 : qSz G ≤ 14) (hN : dN G) (hR : dRw (I a) (qLi G)) (h62 : I a 62 = nI (qSz G)) : ∃ n1 K1 I1 R1, f_L_puts F n K I R (some 0) (nI r) (some a) = some (1, n1, K1, I1, R1) ∧ cS K1 I1 R1 n1 (gUp S r (some G)) c [] ∧ (∀ b, b < n → K1 b = K b) ∧ ∀ b, 89 ≤ b → b < 92 → I1 b = I b := by
  have hn : 92 ≤ n := by obtain ⟨J, RM, x, -⟩ := h; exact x.1.1
  obtain ⟨v, I5, v0, e1, t1, f1⟩ := c_clear (F := F) h
  obtain ⟨I11, e2, t2, f2⟩ := l_types hF t1 hKa ha ha2 hn h1 h2 h3 hN (by rw [f1 a (by omega)]; exact hR) (by rw [f1 a (by omega)]; exact h62)
  obtain ⟨n1, K1, I1, R1, e3, s3, k3, f3⟩ := c_put hF t2 hc2 hc3 hr h1 h2 h3 hN
  have kk : ∀ b, b < n → K1 b = K b := fun b hb => by rw [k3 b (by omega)]; unfold zset; rw [if_neg (by omega)]
  have ff : ∀ b, 89 ≤ b → b < 92 → I1 b = I b := fun b b1 b2 => by rw [f3 b b1 b2, f2 b (by omega) (by omega), f1 b (by omega)]
  refine ⟨n1, K1, I1, R1, ?_, s3, kk, ff⟩
  unfold f_L_puts
  rw [zdr_s (cS_k h), zbd_s, e1, zbd2_s, if_neg v0, e2, zbd5_s, if_neg (by decide), if_pos (cT_k t2), e3, zbd5_s, zdr_s (by rw [kk a (by omega), hKa]), zbd_s, show (62 : Int32) = nI 62 from rfl, zrd_s (by rw [kk a (by omega), hKa]; decide) (by rw [kk a (by omega), hKa]; decide), zbd_s, ff a ha ha2, h62, if_pos rfl]
end ZPU
