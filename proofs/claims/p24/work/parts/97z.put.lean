/-! put(): THE STEP -/
section ZPZ
variable {F k k' n n' : Nat} {K K' : zK} {I I' : zI} {R R' : zR} {J J' : zI} {RM : zR}
theorem zTm_tf {T : Tm} {G : aFo} {P : Nat → Int32} {o : Nat} (h : zTm P o T) (hG : aTf T G 0 0) (hz : qSz G = tn T) : zTm P o (tmF G) := by
  refine zTm_nd.mpr ⟨by rw [h.1, hz], fun i hi => ?_⟩
  obtain ⟨-, -, b1, b2, b3⟩ := blk hG hi
  rw [Nat.zero_add] at b1 b2 b3
  rw [← b1, ← b2, ← b3]
  exact h.2 i (by omega)
/-- where put() writes on the program's side -/
def aPf (n : Nat) (I I' : zI) : Prop := ∀ b, b < n → b ≠ 0 → b ≠ 6 → b ≠ 12 → b ≠ 13 → b ≠ 14 → b ≠ 16 → b ≠ 17 → b ≠ 18 → b ≠ 19 → b ≠ 20 → b ≠ 21 → I' b = I b
theorem zSim_put (h : zSim k K I R n zKm J RM) (hn : n ≤ n') (hK : ∀ b, b < n → K' b = K b) (hK2 : ∀ b, n' ≤ b → K' b = (0, 0)) (hI : aPf n I I') (hI0 : ∀ j, j ≠ 2 → I' 0 j = I 0 j) (hR : ∀ b, b < n → b ≠ 6 → R' b = R b) (hR6 : ∀ j, j ≠ 0 → j ≠ 4 → R' 6 j = R 6 j) (hP : ∀ q, q < 5460 → J' 90 q = J 90 q) (h92 : J' 91 = J 91) (h90 : ∀ y, y = 1 ∨ y = 3 → J' 89 y = J 89 y) (hf : I' 0 2 = J' 89 4) : zSim k' K' I' R' n' zKm J' RM := by
  obtain ⟨b, hb, hb1, hb2, htx⟩ := h.2.1
  have hn0 := h.1.1
  refine zSim_keep h hn hK hK2 (fun c h1 h2 => ⟨hI c h2 (by omega) (by omega) (by omega) (by omega) (by omega) (by omega) (by omega) (by omega) (by omega) (by omega) (by omega), hR c h2 (by omega)⟩) (fun a j hf => ?_) (fun a ha r _ => ?_) (fun a ha j _ => ?_) (fun j _ => by rw [hR 5 (by omega) (by decide)]) (hI0 5 (by decide)) hP (h90 1 (by omega)) ⟨b, hb, by rw [hI0 1 (by decide)]; exact hb1, by rw [h90 3 (by omega)]; exact hb2, fun i hi => by rw [hI 1 (by omega) (by decide) (by decide) (by decide) (by decide) (by decide) (by decide) (by decide) (by decide) (by decide) (by decide) (by decide), h92]; exact htx i hi⟩ hf
  · by_cases h6 : a = 6
    · subst h6
      unfold zFin at hf
      exact hR6 j (by omega) (by omega)
    · unfold zFin at hf
      rw [hR a (by omega) h6]
  · unfold zHs zHa at ha
    rw [hR _ (by omega) (by omega)]
  · unfold zHs zHa at ha
    rw [hI _ (by omega) (by omega) (by omega) (by omega) (by omega) (by omega) (by omega) (by omega) (by omega) (by omega) (by omega) (by omega)]
set_option maxHeartbeats 4000000 in
theorem step_putF (F : Nat) (hF : 5000 ≤ F) : ∀ (k : Nat) (K : zK) (I : zI) (R : zR) (n : Nat) (KM : zK) (J : zI) (RM : zR) (x1 : Int32), zSim (k + 1) K I R n KM J RM → ∃ (r : Int32) (n1 : Nat) (K1 : zK) (I1 : zI) (R1 : zR) (J1 : zI), f_X6_put F n K I R 0 x1 = some (r, n1, K1, I1, R1) ∧ f_X7_put F KM J RM 89 x1 = some (r, J1) ∧ zSim k K1 I1 R1 n1 KM J1 RM ∧ (∀ b, b < n → K1 b = K b) ∧ ∀ b, 89 ≤ b → b < 92 → I1 b = I b := by
  intro k K I R n KM J RM x1 hS
  have hS0 : zSim k K I R n KM J RM := zSim_scr hS (fun _ _ => rfl)
  obtain ⟨hcf, hRM, rfl, hK, hR, hn⟩ := zSim_ctx hS
  have r0 : R 0 0 = some 1 := hR 0 (by decide)
  have r3 : R 0 3 = some 2 := hR 3 (by decide)
  have r6 : R 0 6 = some 6 := hR 6 (by decide)
  have r7 : R 0 7 = some 15 := hR 7 (by decide)
  have k0 : (K 0).1 = 16 := by rw [hK 0 (by decide)]; rfl
  have k6 : (K 6).1 = 12 := by rw [hK 6 (by decide)]; rfl
  by_cases h1 : 0 ≤ x1 ∧ x1 ≤ 7
  case neg =>
    refine ⟨-1, n, K, I, R, J, ?_, ?_, hS0, fun _ _ => rfl, fun _ _ _ => rfl⟩
    · unfold f_X6_put
      rw [X6_noreg h1, zbd_s, if_neg (by decide)]
    · unfold f_X7_put
      rw [X7_noreg h1, zbd_s, if_pos rfl]
  obtain ⟨x, hx, rfl⟩ := zreg h1
  obtain ⟨b, hb, hb1, hb2, htx⟩ := hS.2.1
  obtain ⟨I5, hI5⟩ : ∃ y : zI, y = zup I 0 2 (-9 : Int32) := ⟨_, rfl⟩
  obtain ⟨J4, hJ4⟩ : ∃ y : zI, y = zup J 89 4 (-9 : Int32) := ⟨_, rfl⟩
  have i5 : ∀ c, c ≠ 0 → I5 c = I c := fun c hc => by rw [hI5, zup_ne _ _ _ hc]
  have i50 : ∀ j, j ≠ 2 → I5 0 j = I 0 j := fun j hj => by rw [hI5, zup_self_ne _ _ _ hj]
  have j4 : ∀ c, c ≠ 89 → J4 c = J c := fun c hc => by rw [hJ4, zup_ne _ _ _ hc]
  have j490 : ∀ y, y ≠ 4 → J4 89 y = J 89 y := fun y hy => by rw [hJ4, zup_self_ne _ _ _ hy]
  obtain ⟨I0, J0, R0, f1, f2, f3, f4, f5, a, v, Ir, Jr, e1, e2, e3, e4, e5⟩ := read_both (F := F) (I := I5) (J := J4) hF hK hn hRM ⟨hcf.2 6 6 (by unfold zFin; omega), hcf.2 6 7 (by unfold zFin; omega), hcf.2 6 8 (by unfold zFin; omega)⟩ hb (fun i hi => by rw [i5 1 (by decide), j4 91 (by decide)]; exact htx i hi) (by rw [j490 3 (by decide)]; exact hb2)
  obtain ⟨tK1, tK2, tK3, tK4, tK5, tK6⟩ := zTn_K (K := K) (n := n)
  have g4 : aFm J4 Jr := aFm_tr f4 e4
  have gI : ∀ c, c ≠ 0 → c ≠ 6 → c ≠ 12 → c ≠ 13 → c ≠ 14 → (c < n ∨ n + 4 ≤ c) → Ir c = I c := fun c c0 c1 c2 c3 c4 c5 => by
    rw [e3 c c1 c2 c3 c4 (by omega) (by omega) (by omega) (by omega), f1 c c1 c4 c5, i5 c c0]
  have gI0 : Ir 0 = I5 0 := by rw [e3 0 (by decide) (by decide) (by decide) (by decide) (by omega) (by omega) (by omega) (by omega), f1 0 (by decide) (by decide) (Or.inl (by omega))]
  have q0 : ∀ j, R0 0 j = R 0 j := fun j => by rw [f2 0 (by decide) (by omega)]
  have kn0 : (zTnK K n 0).1 = 16 := by rw [tK5 0 (by omega)]; exact k0
  have kn6 : (zTnK K n 6).1 = 12 := by rw [tK5 6 (by omega)]; exact k6
  have kz : ∀ c, n + 4 ≤ c → zTnK K n c = (0, 0) := fun c hc => by rw [tK6 c hc]; exact hS.1.2.2.2.1 c (by omega)
  have eC : ∀ z, f_X2_read F n K I5 R 6 (some 1) (nI b) = z → f_X6_put F n K I R 0 (nI x) = zbd5 z fun o11 n12 K13 I14 R15 =>
    zcs o11 (
      if (K13 0).1 = 16 then
      zbd (some (R15 0 6)) fun o20 =>
      zbd (zdr K13 o20 12) fun a21 =>
      zbd (some (zup I14 0 2 (I14 a21 3))) fun I24 =>
      zbd (some (R15 0 6)) fun o25 =>
      zbd (zdr K13 o25 12) fun a26 =>
      some ((-10 : Int32) - (I24 a26 2), n12, K13, I24, R15)
      else none
    ) fun a17 =>
      if (K13 0).1 = 16 then
      zbd (some (R15 0 7)) fun o30 =>
      zbd (some (R15 0 3)) fun o31 =>
      zbd (zdr K13 o31 14) fun a32 =>
      zbd (f_X4_setting F K13 I14 R15 a32 (2 : Int32)) fun v35 =>
      zbd (zdr K13 o30 13) fun a37 =>
      zbd5 (f_X3_flattened F n12 K13 I14 R15 a37 (some a17) v35) fun o40 n41 K42 I43 R44 =>
      zcs o40 (
        if (K42 0).1 = 16 then
        zbd (some (zup I43 0 2 (5 : Int32))) fun I49 =>
        some ((-10 : Int32) - (I49 0 1), n41, K42, I49, R44)
        else none
      ) fun a46 =>
        if (K42 0).1 = 16 then
        zbd (some (R44 0 7)) fun o51 =>
        zbd (some (R44 0 3)) fun o52 =>
        zbd (zdr K42 o52 14) fun a53 =>
        zbd (f_X4_setting F K42 I43 R44 a53 (3 : Int32)) fun v56 =>
        zbd (zdr K42 o51 13) fun a58 =>
        zbd (f_X3_arrange F K42 I43 R44 a58 (some a46) v56) fun I61 =>
        zbd2 (f_X6_remember F K42 I61 R44 0) fun I63 R64 =>
        zbd (some (R64 0 3)) fun o66 =>
        zbd (zdr K42 o66 14) fun a67 =>
        zbd (f_X4_hold F K42 I63 R64 a67 (nI x) (some a46)) fun R70 =>
        if (K42 a46).1 = 15 then
        some (I63 a46 3, n41, K42, I63, R70)
        else none
        else none
      else none := fun z hz => by
    unfold f_X6_put
    rw [X6_reg hx, zbd_s, if_pos rfl, if_pos k0, zbd_s, r6, zbd_s, r0, zbd_s, zdr_s k6, zbd_s, ← hI5, i50 1 (by decide), hb1, hz]
  have eJ : f_X7_put F zKm J RM 89 (nI x) = if v = (0 : Int32) then some ((-10 : Int32) - (Jr 89 13), Jr) else
      zbd (f_X7_flattens F zKm Jr RM 89) fun I9 =>
      zbd2 (f_X7_isSound F zKm I9 RM 89) fun v11 I12 =>
      if v11 = (0 : Int32) then
        zbd (some (zup I12 89 4 (5 : Int32))) fun I22 =>
        some ((-10 : Int32) - (I22 89 3), I22)
      else
        zbd (f_X7_sortsAll F zKm I12 RM 89) fun I15 =>
        zbd (f_X7_records F zKm I15 RM 89) fun I17 =>
        zbd2 (f_X7_puts F zKm I17 RM 89 (5460 : Int32) (nI x)) fun v19 I20 =>
        some (v19, I20) := by
    unfold f_X7_put
    rw [X7_reg hx, zbd_s, if_neg (by decide), zbd_s, ← hJ4, e2, zbd2_s]
  have eC1 := eC _ e1
  rw [zbd5_s] at eC1
  have sim4 : ∀ (n1 : Nat) (K1 : zK) (I1 : zI) (R1 : zR) (J1 : zI), n + 4 ≤ n1 → (∀ c, c < n → K1 c = K c) → (∀ c, n1 ≤ c → K1 c = (0, 0)) → (∀ c, c < n → c ≠ 0 → c ≠ 16 → c ≠ 17 → c ≠ 18 → c ≠ 19 → c ≠ 20 → c ≠ 21 → I1 c = Ir c) → (∀ j, j ≠ 2 → I1 0 j = Ir 0 j) → (∀ c, c < n → R1 c = R0 c) → (∀ c, c ≠ 89 → c ≠ 90 → c ≠ 92 → c ≠ 94 → c ≠ 95 → c ≠ 99 → J1 c = Jr c) → (∀ q, q < 5460 → J1 90 q = Jr 90 q) → (∀ y, y ≠ 4 → J1 89 y = Jr 89 y) → I1 0 2 = J1 89 4 → ∀ k', zSim k' K1 I1 R1 n1 zKm J1 RM := fun n1 K1 I1 R1 J1 a1 a2 a3 a4 a5 a6 a7 a8 a9 a10 k' => by
    refine zSim_put hS (by omega) a2 a3 (fun c c0 c1 c2 c3 c4 c5 c6 c7 c8 c9 c10 c11 => ?_) (fun j hj => ?_) (fun c c0 c1 => ?_) (fun j j0 j1 => ?_) (fun q hq => ?_) ?_ (fun y hy => ?_) a10
    · rw [a4 c c0 c1 c6 c7 c8 c9 c10 c11, gI c c1 c2 c3 c4 c5 (Or.inl c0)]
    · rw [a5 j hj, gI0, i50 j hj]
    · rw [a6 c c0, f2 c c1 (by omega)]
    · rw [a6 6 (by omega)]; exact f3 j j0 j1
    · rw [a8 q hq, g4.2.1 q (Or.inl hq), j4 90 (by decide)]
    · rw [a7 91 (by decide) (by decide) (by decide) (by decide) (by decide) (by decide), g4.1 91 (by decide) (by decide) (by decide) (by decide) (by decide), j4 91 (by decide)]
    · rw [a9 y (by omega), g4.2.2 y hy, j490 y (by omega)]
  rcases e5 with ⟨rfl, rfl, e6, e7⟩ | ⟨rfl, rfl, e6, T, hT, hTc, hTm⟩
  · -- a fault while reading
    rw [if_pos rfl] at eJ
    rw [zcs_n, if_pos kn0, q0, r6, zbd_s, zdr_s kn6, zbd_s, zbd_s, zbd_s, zdr_s kn6, zbd_s, zup_ne _ _ _ (by decide), e7] at eC1
    refine ⟨_, _, _, _, _, _, eC1, eJ, ?_, tK5, fun b b1 b2 => by rw [zup_ne _ _ _ (by omega), gI b (by omega) (by omega) (by omega) (by omega) (by omega) (Or.inl (by omega))]⟩
    exact sim4 _ _ _ _ _ (Nat.le_refl _) tK5 kz (fun c _ c1 _ _ _ _ _ _ => zup_ne _ _ _ c1) (fun j hj => zup_self_ne _ _ _ hj) (fun _ _ => rfl) (fun _ _ _ _ _ _ _ => rfl) (fun _ _ => rfl) (fun _ _ => rfl) (by rw [zup_self]; exact e6) k
  · rw [if_neg (by decide)] at eJ
    obtain ⟨G, c1, c2, c3⟩ := aFo_all hT.1 (fun i hi => by
      have nd := hT.2.1 i hi
      by_cases h0 : ts T i = 0
      · have := nd.2.2.1 h0; omega
      · have := nd.2.2.2.1 h0; omega)
    have h32 : tn T ≤ 32 := hT.1.2.1
    have hcf0 : zCf (zTnK K n) R0 := ⟨fun c hc => by rw [tK5 c (by omega)]; exact hK c hc, fun c j hf => by
      by_cases h6 : c = 6
      · subst h6
        rw [f3 j (by unfold zFin at hf; omega) (by unfold zFin at hf; omega)]
        exact hcf.2 6 j hf
      · rw [f2 c h6 (by unfold zFin at hf; omega)]
        exact hcf.2 c j hf⟩
    have hset : ∀ y, y < 4 → I 4 y = J 90 (776 + y) := fun y hy => by
      have := hS.2.2.2.1.2.1 y hy
      rw [Nat.zero_add] at this
      exact this
    have hset2 : ∀ y, y < 4 → Ir 4 y = Jr 90 (776 + y) := fun y hy => by
      rw [gI 4 (by decide) (by decide) (by decide) (by decide) (by decide) (Or.inl (by omega)), g4.2.1 _ (Or.inl (by omega)), j4 90 (by decide)]
      exact hset y hy
    have hfb : ∀ u, (fun u => decide (aBt (Jr 90 778) u)) u = true ↔ aBt (Jr 90 778) u := fun u => by
      show decide _ = true ↔ _
      exact decide_eq_true_iff
    obtain ⟨fb, hfbe⟩ : ∃ fb : Nat → Bool, fb = fun u => decide (aBt (Jr 90 778) u) := ⟨_, rfl⟩
    rw [← hfbe] at hfb
    obtain ⟨hs, hhs⟩ : ∃ hs : Nat → Nat, ∀ i, i < tn T → ts T i ≠ 0 → hs (tg T i) = ts T i := by
      refine ⟨fun g => if h : ∃ i, i < tn T ∧ ts T i ≠ 0 ∧ tg T i = g then ts T h.choose else 0, fun i hi h0 => ?_⟩
      have h : ∃ i', i' < tn T ∧ ts T i' ≠ 0 ∧ tg T i' = tg T i := ⟨i, hi, h0, rfl⟩
      show (if h : ∃ i', i' < tn T ∧ ts T i' ≠ 0 ∧ tg T i' = tg T i then ts T h.choose else 0) = _
      rw [dif_pos h]
      obtain ⟨p1, p2, p3⟩ := h.choose_spec
      exact hT.2.2.1 _ _ p1 hi p2 h0 p3
    have hW : qW hs G := q_fW_of hT.2.1 hhs (Nat.le_refl _) G 0 0 c3 (by omega)
    have hht : qHt G ≤ 8 := by
      rcases q_ht_of G 0 0 7 c3 (fun i _ hi => (hT.2.1 i (by omega)).2.2.2.2.2.2) with e | e
      · rw [e] at c1; cases c1
      · omega
    have hsq : qSq G = 0 := q_sq_root c1 c3 hT.2.2.2.1
    have hTmG : zTm (Jr 90) 5460 (tmF G) := zTm_tf hTm c3 c2
    have hsm : aSm G := fun y hy => by
      obtain ⟨w1, w2, w3, -⟩ := q_fW_at G hW y hy
      refine ⟨w1, ?_⟩
      by_cases h0 : (qNd G y).1 = 0
      · exact w2 h0
      · have := w3 h0; omega
    -- the reference flattens and tests
    obtain ⟨J9, m1, m2, m3, m4⟩ := X7_flattens (F := F) (J := Jr) (fb := fb) (by omega) hRM c1 (by omega) hsm hTmG hfb
    have hl : qLn (qFl fb 9 0 G) = 1 := by rw [q_fl_len (by decide)]; exact c1
    have hzf := q_sz_fl (fb := fb) G 9 0
    have hWf : qW hs (qFl fb 9 0 G) := q_fW_fl G 9 0 hW
    have hsmf : aSm (qFl fb 9 0 G) := fun y hy => by
      obtain ⟨w1, w2, w3, -⟩ := q_fW_at _ hWf y hy
      refine ⟨w1, ?_⟩
      by_cases h0 : (qNd (qFl fb 9 0 G) y).1 = 0
      · exact w2 h0
      · have := w3 h0; omega
    obtain ⟨xs, J12, s1, s2, s3, s4⟩ := X7_isSound (F := F) (J := J9) (by omega) hRM hl (by omega) hsmf m2
    rw [m1, zbd_s, s1, zbd2_s] at eJ
    -- the Shaper flattens
    have hSh : aSh (zTnK K n) R0 := ⟨hcf0.1 15 (by decide), hcf0.1 16 (by decide), hcf0.1 17 (by decide), hcf0.1 18 (by decide), hcf0.2 15 0 (by unfold zFin; omega), hcf0.2 15 1 (by unfold zFin; omega), hcf0.2 15 2 (by unfold zFin; omega)⟩
    obtain ⟨no, yes⟩ := X3_flattened (F := F) (n := n + 4) (K := zTnK K n) (R := R0) (p := n) (T := T) (fb := fb) (x2 := Jr 90 778) (hs := hs) (I := Ir) (G := G) hF hSh hn (Nat.le_refl _) hT hTc hfb c1 c2 c3 hW hht hsq
    rw [zcs_s, if_pos kn0, q0, r7, zbd_s, q0, r3, zbd_s, zdr_s (by rw [hcf0.1 2 (by decide)]; rfl), zbd_s, show (2 : Int32) = nI 2 from rfl, X4_setting hcf0 (Or.inl rfl) (by decide), zbd_s, hset2 2 (by decide), zdr_s (by rw [hcf0.1 15 (by decide)]; rfl), zbd_s] at eC1
    by_cases hy : qS (qFl fb 9 0 G)
    case neg =>
      obtain ⟨I43, o1, o2⟩ := no hy
      rw [if_pos (s2.resolve_right (fun e => hy (s3.mp e))), zbd_s] at eJ
      rw [o1, zbd5_s, zcs_n, if_pos kn0, zbd_s] at eC1
      have u0 : ∀ j, I43 0 j = Ir 0 j := fun j => by rw [o2 0 (by decide) (by decide) (by decide)]
      have v1 : zup I43 0 2 (5 : Int32) 0 1 = nI b := by rw [zup_self_ne _ _ _ (by decide), u0, gI0, i50 1 (by decide), hb1]
      have v2 : zup J12 89 4 (5 : Int32) 89 3 = nI b := by rw [zup_self_ne _ _ _ (by decide), s4 89 (by decide), m3 89 (by decide) (by decide) (by decide) (by decide), g4.2.2 3 (by omega), j490 3 (by decide), hb2]
      rw [v1] at eC1
      rw [v2] at eJ
      refine ⟨_, _, _, _, _, _, eC1, eJ, ?_, tK5, fun b b1 b2 => by rw [zup_ne _ _ _ (by omega), o2 b (by omega) (by omega) (by omega), gI b (by omega) (by omega) (by omega) (by omega) (by omega) (Or.inl (by omega))]⟩
      refine sim4 _ _ _ _ _ (Nat.le_refl _) tK5 kz (fun c _ d1 d2 d3 d4 _ _ _ => by rw [zup_ne _ _ _ d1, o2 c d2 d3 d4]) (fun j hj => by rw [zup_self_ne _ _ _ hj, u0]) (fun _ _ => rfl) (fun c d1 d2 d3 d4 d5 _ => by rw [zup_ne _ _ _ d1, s4 c d3, m3 c d2 d3 d4 d5]) (fun q hq => by rw [zup_ne _ _ _ (by decide), s4 90 (by decide), m4 q (Or.inl hq)]) (fun y hy => by rw [zup_self_ne _ _ _ hy, s4 89 (by decide), m3 89 (by decide) (by decide) (by decide) (by decide)]) (by rw [zup_self, zup_self]) k
    case pos =>
      obtain ⟨I43, o1, o2, o3, o4⟩ := yes hy
      have hxs : xs ≠ 0 := fun e => by rw [s3.mpr hy] at e; exact absurd e (by decide)
      rw [if_neg hxs] at eJ
      obtain ⟨uK1, uK2, uK3, uK4, uK5, uK6⟩ := zTn_K (K := zTnK K n) (n := n + 4)
      obtain ⟨uR1, uR2, uR3, uR4⟩ := zTn_R (R := R0) (n := n + 4)
      have k42 : (zTnK (zTnK K n) (n + 4) 0).1 = 16 := by rw [uK5 0 (by omega)]; exact kn0
      have hcf1 : zCf (zTnK (zTnK K n) (n + 4)) (zTnR R0 (n + 4)) := ⟨fun c hc => by rw [uK5 c (by omega)]; exact hcf0.1 c hc, fun c j hf => by
        rw [uR4 c (by unfold zFin at hf; omega)]
        exact hcf0.2 c j hf⟩
      have w0 : ∀ j, zTnR R0 (n + 4) 0 j = R 0 j := fun j => by rw [uR4 0 (by omega), q0]
      have hS2 : aSm2 (zTnK (zTnK K n) (n + 4)) (zTnR R0 (n + 4)) := ⟨hcf1.1 15 (by decide), hcf1.1 19 (by decide), hcf1.1 20 (by decide), hcf1.2 15 3 (by unfold zFin; omega), hcf1.2 15 4 (by unfold zFin; omega)⟩
      have hm12 : zTm (J12 90) 5460 (tmF (qFl fb 9 0 G)) := by rw [s4 90 (by decide)]; exact m2
      have h43 : I43 4 3 = J12 90 779 := by
        rw [o4 4 (by decide) (by decide) (by decide) (Or.inl (by omega)), s4 90 (by decide), m4 779 (Or.inl (by decide))]
        exact hset2 3 (by decide)
      have hIv : aIv hs (qSz (qFl fb 9 0 G)) (qFl fb 9 0 G) := ⟨hl, rfl, hWf, hy, Nat.le_trans (q_ht_fl G 9 0) hht, by rw [q_sq_fl9 (by decide)]; exact hsq⟩
      obtain ⟨G', I61, J15, p1, p2, p3, p4, p5, p6, p7, p8⟩ := sort_both (F := F) (K := zTnK (zTnK K n) (n + 4)) (R := zTnR R0 (n + 4)) (p := n + 4) (x2 := J12 90 779) (I := I43) (J := J12) (by omega) hRM (by omega) hS2 (by omega) hIv o2 hm12 rfl
      have hsim : zSim (k + 1) (zTnK (zTnK K n) (n + 4)) I61 (zTnR R0 (n + 4)) (n + 4 + 4) zKm J15 RM := by
        refine sim4 _ _ _ _ _ (by omega) (fun c hc => by rw [uK5 c (by omega), tK5 c hc]) (fun c hc => by rw [uK6 c hc]; exact kz c (by omega)) (fun c d0 d1 d2 d3 d4 d5 d6 d7 => ?_) (fun j hj => ?_) (fun c hc => uR4 c (by omega)) (fun c d1 d2 d3 d4 d5 d6 => ?_) (fun q hq => ?_) (fun y hy => ?_) ?_ (k + 1)
        · rw [p6 c d5 d6 (by omega) (by omega) (by omega), o4 c d2 d3 d4 (Or.inl (by omega))]
        · rw [p6 0 (by decide) (by decide) (by omega) (by omega) (by omega), o4 0 (by decide) (by decide) (by decide) (Or.inl (by omega))]
        · rw [p7 c d2 d3 d6, s4 c d3, m3 c d2 d3 d4 d5]
        · rw [p8 q (Or.inl hq), s4 90 (by decide), m4 q (Or.inl hq)]
        · rw [p7 89 (by decide) (by decide) (by decide), s4 89 (by decide), m3 89 (by decide) (by decide) (by decide) (by decide)]
        · rw [p6 0 (by decide) (by decide) (by omega) (by omega) (by omega), o4 0 (by decide) (by decide) (by decide) (Or.inl (by omega)), gI0, hI5, zup_self, p7 89 (by decide) (by decide) (by decide), s4 89 (by decide), m3 89 (by decide) (by decide) (by decide) (by decide), e6, f5, hJ4, zup_self]
      obtain ⟨I63, R64, J17, sq, a1, a2, a3, a4, a5, a6, a7, a8, a9, a10⟩ := zRem hF hsim
      obtain ⟨hcf3, -, -, hK3, hR3, -⟩ := zSim_ctx a3
      have hsq' : sq < 87 := by unfold zHa at a4; omega
      have hPc' : zTc (zTnK (zTnK K n) (n + 4)) I63 R64 (n + 4) (tmF G') := zTc_row p4 (by omega) (fun b hb => a5 b (by omega) (by omega)) (fun b hb => a7 b (by omega) (by omega))
      have hPm' : zTm (J17 90) 5460 (tmF G') := zTm_keep p5 (fun q _ => a10 _ (by omega)) p3.1.2.1
      obtain ⟨b1, b2, b3⟩ := reg_both (k' := k) hF a3 (by omega) (Nat.le_refl _) p3 hPc' hPm' (by decide) (by decide) hx
      rw [o1, zbd5_s, zcs_s, if_pos k42, w0, r7, zbd_s, w0, r3, zbd_s, zdr_s (by rw [hcf1.1 2 (by decide)]; rfl), zbd_s, show (3 : Int32) = nI 3 from rfl, X4_setting hcf1 (Or.inl rfl) (by decide), zbd_s, h43, zdr_s (by rw [hcf1.1 15 (by decide)]; rfl), zbd_s, p1, zbd_s, a1, zbd2_s, hR3 3 (by decide), zbd_s, show zRt 0 3 = some 2 from rfl, zdr_s (by rw [hK3 2 (by decide)]; rfl), zbd_s, b1, zbd_s, if_pos (by rw [hPc'.1]), hPc'.2.2.2.2.2.2.2.1] at eC1
      rw [p2, zbd_s, a2, zbd_s, show (5460 : Int32) = nI 5460 from rfl, b2, zbd2_s] at eJ
      have hs89 : sq + 2 < 89 := by unfold zHa at a4; omega
      refine ⟨_, _, _, _, _, _, eC1, eJ, b3, fun c hc => by rw [uK5 c (by omega), tK5 c hc], fun c c1 c2 => ?_⟩
      rw [a5 c (by omega) (by omega), p6 c (by omega) (by omega) (by omega) (by omega) (by omega), o4 c (by omega) (by omega) (by omega) (Or.inl (by omega)), gI c (by omega) (by omega) (by omega) (by omega) (by omega) (Or.inl (by omega))]
theorem step_put (F : Nat) (hF : 5000 ≤ F) : zStep_put F 89 zSim := fun k K I R n KM J RM x1 hS => by
  obtain ⟨r, n1, K1, I1, R1, J1, e1, e2, e3, -⟩ := step_putF F hF k K I R n KM J RM x1 hS
  exact ⟨r, n1, K1, I1, R1, J1, e1, e2, e3⟩
end ZPZ
