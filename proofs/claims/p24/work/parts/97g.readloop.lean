/-! put(): the rounds of reading -/
section ZPG
variable {F : Nat} {K : zK} {R : zR} {RM : zR} {t b n0 : Nat}
theorem aHs_eq {X Y : Nat → Int32} {b : Nat} (h : ∀ i, i < b → X i = Y i) (i D : Nat) : aHs (aB X b i) D = aHs (aBm Y b i) D := by
  have h1 := aB_iff h i (x := 40) (by decide) (by decide)
  have h2 := aB_iff h i (x := 42) (by decide) (by decide)
  unfold aHs
  by_cases e1 : aB X b i = 40
  · rw [if_pos e1, if_pos (h1.mp e1)]
  · rw [if_neg e1, if_neg (fun z => e1 (h1.mpr z))]
    by_cases e2 : aB X b i = 42
    · rw [if_pos e2, if_pos (h2.mp e2)]
    · rw [if_neg e2, if_neg (fun z => e2 (h2.mpr z))]
theorem aNe0 {a : Nat} (h0 : 0 < a) (h : a < 2 ^ 31) : nI a ≠ 0 := fun e => by have := (ni0 h).mp e; omega
theorem aAr1 {b p p' e f' x : Nat} (he : b - p ≤ e + 1) (h1 : p + 1 ≤ p') (hx : p' ≤ x) (hf : b - p + 3 < f' + 1) (hl : p < b) : b - (x + 1) ≤ e ∧ b - (x + 1) + 3 < f' := by omega
theorem aAr2 {b p p' f' : Nat} (h1 : p + 1 ≤ p') (hf : b - p + 3 < f' + 1) : b - p' < f' := by omega
theorem aAr3 {b p p' p2 f' f2 : Nat} (h1 : p + 1 ≤ p') (hf : b - p + 3 < f' + 1) (h2 : p2 ≤ b) (h4 : f2 + p2 = f' + p') (hl : p < b) : f2 = f2 - 2 + 2 := by omega
theorem aAr4 {b p p' p2 f' f3 : Nat} (h1 : p + 1 ≤ p') (hf : b - p + 3 < f' + 1) (h2 : p2 < b) (h4 : f3 + 2 + p2 = f' + p') (hl : p < b) : b - (p2 + 1) + 3 < f3 + 1 := by omega
set_option maxHeartbeats 8000000 in
theorem read_loop (hF : 200 ≤ F) (hK : ∀ a, a < 89 → K a = zKt a) (hRM : zRM RM) : ∀ (e p rd f f' n D : Nat) (I J : zI) (s g r o q hs : Nat → Nat), b - p ≤ e → rd ≤ p → aPc K I R t b n s g r D o q hs p → aPm J b n s g r D o q hs p → aOk b n s g r D o q hs p → aInv n s g r D o q → aHol n s g r D o hs → (n = 0 ∨ 0 < D) → (∀ i, i < b → I 1 i = J 91 i) → J 89 14 = 1 → I (t + 3) 0 = 0 → e + 1 < f → b - p + 3 < f' → aOut K R t n0 I J (f_X2_read_63 F 6 f n0 K I R (nI b) (nI rd)) (f_X7_reads_54 F zKm RM 89 f' J 1) := by
  intro e
  induction e with
  | zero =>
    intro p rd f f' n D I J s g r o q hs he hrd hP hM hA hI hH hnD htx h14 h30 hf hf'
    obtain ⟨f, rfl⟩ : ∃ y, f = y + 1 := ⟨f - 1, by omega⟩
    obtain ⟨f', rfl⟩ : ∃ y, f' = y + 1 := ⟨f' - 1, by omega⟩
    have hpb : p = b := by have := hA.2.2.2.1; omega
    have hb := hA.2.2.1
    have k6 : (K 6).1 = 12 := by rw [hK 6 (by decide)]; rfl
    have hc0 : aB (I 1) b p = 0 := by unfold aB; rw [if_neg (by omega)]
    rcases X2_head (F := F) hK hP hA with ⟨v, so, x2, x3, hd, -⟩ | ⟨-, -, e1⟩
    · exfalso
      rw [hc0] at hd
      rcases hd with ⟨-, -, d, d2, -⟩ | ⟨-, -, d, d2, -⟩
      · exact aNe0 (by omega) (by omega) d.symm
      · exact aNe0 (by omega) (by omega) d.symm
    · have hM0 : aPm (zup J 89 14 0) b n s g r D o q hs p := by
        obtain ⟨⟨j3, j12, j13⟩, a2, a3, a4, a5, a6⟩ := hM
        exact ⟨⟨by rw [zup_self_ne _ _ _ (by decide)]; exact j3, by rw [zup_self_ne _ _ _ (by decide)]; exact j12, by rw [zup_self_ne _ _ _ (by decide)]; exact j13⟩, by rw [zup_ne _ _ _ (by decide)]; exact a2, by rw [zup_ne _ _ _ (by decide)]; exact a3, by rw [zup_ne _ _ _ (by decide)]; exact a4, by rw [zup_ne _ _ _ (by decide)]; exact a5, by rw [zup_ne _ _ _ (by decide)]; exact a6⟩
      have hm9 : aBm (zup J 89 14 0 91) b p = -9 := by unfold aBm; rw [if_neg (by omega)]
      have eB := (X7_begins (F := F) hRM hM0 hb (by omega)).2 (fun ⟨v, v1, v2⟩ => nim9 (a := 97 + v) (by omega) (v2.symm.trans hm9)) (fun ⟨v, v1, v2⟩ => nim9 (a := 48 + v) (by omega) (v2.symm.trans hm9))
      refine ⟨none, 0, zup I 6 3 1, zup (zup (zup J 89 14 0) 89 4 1) 89 13 (nI p), ?_, ?_, fun x x1 _ _ _ _ _ _ _ => zup_ne _ _ _ x1, ⟨fun x x1 _ _ _ _ => by rw [zup_ne _ _ _ x1, zup_ne _ _ _ x1, zup_ne _ _ _ x1], fun y _ => by rw [zup_ne _ _ _ (by decide), zup_ne _ _ _ (by decide), zup_ne _ _ _ (by decide)], fun y hy => by rw [zup_self_ne _ _ _ (by omega), zup_self_ne _ _ _ (by omega), zup_self_ne _ _ _ (by omega)]⟩, Or.inl ⟨rfl, rfl, ?_, ?_⟩⟩
      · show g_X2_read_63 F 6 _ n0 K I R (nI b) (nI rd) = _
        unfold g_X2_read_63
        rw [if_neg (fun z => absurd (nI_le (show rd ≤ b by omega) (by omega)) (Int32.not_le.mpr z)), if_pos k6, e1, zbd2_s, if_pos rfl]
      · show g_X7_reads_54 F zKm RM 89 _ J 1 = _
        unfold g_X7_reads_54
        rw [if_neg (show ¬ ((1 : Int32) = 0) by decide), if_neg (show ¬ (J 89 14 = 0) by rw [h14]; decide), zbd_s, eB, zbd2_s, if_pos rfl]
      · rw [zup_self, zup_self_ne _ _ _ (by decide), zup_self]
      · rw [zup_self_ne _ _ _ (by decide), zup_self]; exact hP.2.2.2.1.2.1
  | succ e ih =>
    intro p rd f f' n D I J s g r o q hs he hrd hP hM hA hI hH hnD htx h14 h30 hf hf'
    obtain ⟨f, rfl⟩ : ∃ y, f = y + 1 := ⟨f - 1, by omega⟩
    obtain ⟨f', rfl⟩ : ∃ y, f' = y + 1 := ⟨f' - 1, by omega⟩
    have hA0 := hA
    obtain ⟨a1, a2, hb, hpb, a5, a6, a7, a8⟩ := hA
    have ht := hP.2.1
    have k6 : (K 6).1 = 12 := by rw [hK 6 (by decide)]; rfl
    have hM0 : aPm (zup J 89 14 0) b n s g r D o q hs p := by
      obtain ⟨⟨j3, j12, j13⟩, a2, a3, a4, a5, a6⟩ := hM
      exact ⟨⟨by rw [zup_self_ne _ _ _ (by decide)]; exact j3, by rw [zup_self_ne _ _ _ (by decide)]; exact j12, by rw [zup_self_ne _ _ _ (by decide)]; exact j13⟩, by rw [zup_ne _ _ _ (by decide)]; exact a2, by rw [zup_ne _ _ _ (by decide)]; exact a3, by rw [zup_ne _ _ _ (by decide)]; exact a4, by rw [zup_ne _ _ _ (by decide)]; exact a5, by rw [zup_ne _ _ _ (by decide)]; exact a6⟩
    have fJ0 : aFm J (zup J 89 14 0) := ⟨fun x x1 _ _ _ _ => zup_ne _ _ _ x1, fun y _ => by rw [zup_ne _ _ _ (by decide)], fun y hy => zup_self_ne _ _ _ (by omega)⟩
    have eC : f_X2_read_63 F 6 (f + 1) n0 K I R (nI b) (nI rd) = zbd2 (f_X2_readHead F K I R 6) fun v3 I4 => if v3 = (0 : Int32) then some (none, n0, K, I4, R) else (zbd2 (f_X2_opens F K I4 R 6) fun v7 I8 => if v7 = (0 : Int32) then (zbd (f_X2_closeNodes F K I8 R 6) fun I11 => if (I11 6 5) = (0 : Int32) then (zbd2 (f_X2_ends F K I11 R 6) fun v18 I19 => if v18 = (0 : Int32) then some (none, n0, K, I19, R) else (zbd (some (R 6 4)) fun o22 => some (o22, n0, K, I19, R))) else (zbd2 (f_X2_readComma F K I11 R 6) fun v14 I15 => if v14 = (0 : Int32) then some (none, n0, K, I15, R) else f_X2_read_63 F 6 f n0 K I15 R (nI b) (nI (rd + 1)))) else f_X2_read_63 F 6 f n0 K I8 R (nI b) (nI (rd + 1))) := by
      show g_X2_read_63 F 6 (f_X2_read_63 F 6 f) n0 K I R (nI b) (nI rd) = _
      unfold g_X2_read_63 f_X2_read_123
      rw [if_neg (fun z => absurd (nI_le (show rd ≤ b by omega) (by omega)) (Int32.not_le.mpr z)), if_pos k6, nI_1]
    have eJ : f_X7_reads_54 F zKm RM 89 (f' + 1) J 1 = zbd2 (f_X7_begins F zKm (zup J 89 14 0) RM 89) fun v24 I25 => if v24 = (0 : Int32) then some ((0 : Int32), I25) else f_X7_reads_54 F zKm RM 89 f' I25 1 := by
      show g_X7_reads_54 F zKm RM 89 (f_X7_reads_54 F zKm RM 89 f') J 1 = _
      unfold g_X7_reads_54
      rw [if_neg (show ¬ ((1 : Int32) = 0) by decide), if_neg (show ¬ (J 89 14 = 0) by rw [h14]; decide), zbd_s]
    have flt : ∀ k : Int32, f_X2_readHead F K I R 6 = some (0, zup I 6 3 k) → f_X7_begins F zKm (zup J 89 14 0) RM 89 = some (0, zup (zup (zup J 89 14 0) 89 4 k) 89 13 (nI p)) → aOut K R t n0 I J (f_X2_read_63 F 6 (f + 1) n0 K I R (nI b) (nI rd)) (f_X7_reads_54 F zKm RM 89 (f' + 1) J 1) := fun k y1 y2 => by
      refine ⟨none, 0, zup I 6 3 k, zup (zup (zup J 89 14 0) 89 4 k) 89 13 (nI p), by rw [eC, y1, zbd2_s, if_pos rfl], by rw [eJ, y2, zbd2_s, if_pos rfl], fun x x1 _ _ _ _ _ _ _ => zup_ne _ _ _ x1, ⟨fun x x1 _ _ _ _ => by rw [zup_ne _ _ _ x1, zup_ne _ _ _ x1, zup_ne _ _ _ x1], fun y _ => by rw [zup_ne _ _ _ (by decide), zup_ne _ _ _ (by decide), zup_ne _ _ _ (by decide)], fun y hy => by rw [zup_self_ne _ _ _ (by omega), zup_self_ne _ _ _ (by omega), zup_self_ne _ _ _ (by omega)]⟩, Or.inl ⟨rfl, rfl, ?_, ?_⟩⟩
      · rw [zup_self, zup_self_ne _ _ _ (by decide), zup_self]
      · rw [zup_self_ne _ _ _ (by decide), zup_self]; exact hP.2.2.2.1.2.1
    have htx0 : ∀ i, i < b → I 1 i = zup J 89 14 0 91 i := fun i hi => by rw [zup_ne _ _ _ (by decide)]; exact htx i hi
    obtain ⟨bg1, bg2⟩ := X7_begins (F := F) hRM hM0 hb hpb
    rcases X2_head (F := F) hK hP hA0 with ⟨v, so, x2, x3, hd, e1⟩ | ⟨no1, no2, e1⟩
    · have hd' : aHd (aBm (zup J 89 14 0 91) b p) (aBm (zup J 89 14 0 91) b (p + 1)) D v so x2 x3 := by
        rcases hd with ⟨d2, d3, d1, d4, d5⟩ | ⟨d2, d3, d1, d4, d5⟩
        · exact Or.inl ⟨d2, d3, (aB_iff htx0 p (aNe0 (by omega) (by omega)) (nim9 (by omega))).mp d1, d4, d5⟩
        · exact Or.inr ⟨d2, d3, (aB_iff htx0 p (aNe0 (by omega) (by omega)) (nim9 (by omega))).mp d1, d4, by rw [← aHs_eq htx0]; exact d5⟩
      have e2 := bg1 v so x2 x3 _ hd'
      clear bg1 bg2
      obtain ⟨c1, c2, c3, c4⟩ := X2_59 (F := F) hK hP hA0 hd
      obtain ⟨m1, m2, m3, m4⟩ := X7_43 (F := F) hRM hM0 hA0 hd'
      by_cases k1 : 0 < D ∧ r (o (D - 1)) = 8
      · exact flt 2 (e1.trans (c1 k1)) (e2.trans (m1 k1))
      by_cases k2 : n = 32 ∨ D = 8
      · exact flt 3 (e1.trans (c2 k1 k2)) (e2.trans (m2 k1 k2))
      by_cases k3 : aCl D q hs so v
      · exact flt 4 (e1.trans (c3 k1 k2 k3)) (e2.trans (m3 k1 k2 k3))
      obtain ⟨I1, f1, f2, f3⟩ := c4 k1 k2 k3
      obtain ⟨J1, g1, g2, g3, g4⟩ := m4 k1 k2 k3
      obtain ⟨p', hp'⟩ : ∃ p', p' = p + if so = 3 then 2 else 1 := ⟨_, rfl⟩
      rw [← hp'] at f2
      have hp1 : p + 1 ≤ p' := by
        by_cases z : so = 3
        · rw [hp', if_pos z]; omega
        · rw [hp', if_neg z]; exact Nat.le_refl _
      have hn32 : n < 32 := by omega
      have hD7 : D ≤ 7 := by omega
      have hso : so ≤ 3 := by
        rcases hd with ⟨-, -, -, -, z⟩ | ⟨-, -, -, -, z⟩
        · omega
        · have := (aHs_is (aB (I 1) b (p + 1)) D).1; omega
      have hso3 : so = 3 → 0 < D := fun z => by
        rcases hd with ⟨-, -, -, -, y⟩ | ⟨-, -, -, -, y⟩
        · omega
        · exact (aHs_is (aB (I 1) b (p + 1)) D).2 (by rw [← y]; exact z)
      have hlt : p < b := by
        rcases Nat.lt_or_ge p b with h | h
        · exact h
        · exfalso
          have hc0 : aB (I 1) b p = 0 := by unfold aB; rw [if_neg (by omega)]
          rw [hc0] at hd
          rcases hd with ⟨-, -, d, d2, -⟩ | ⟨-, -, d, d2, -⟩
          · exact aNe0 (by omega) (by omega) d.symm
          · exact aNe0 (by omega) (by omega) d.symm
      have hp'b : p' ≤ b := by
        by_cases z : so = 3
        · rw [hp', if_pos z]
          rcases Nat.lt_or_ge (p + 1) b with h | h
          · omega
          · exfalso
            have hc0 : aB (I 1) b (p + 1) = 0 := by unfold aB; rw [if_neg (by omega)]
            rcases hd with ⟨-, -, -, -, y⟩ | ⟨-, -, -, -, y⟩
            · omega
            · rw [hc0] at y
              unfold aHs at y
              rw [if_neg (by decide), if_neg (by decide)] at y
              omega
        · rw [hp', if_neg z]; omega
      have hv : (so = 0 → v ≤ 12) ∧ (so ≠ 0 → v ≤ 9) := by
        rcases hd with ⟨-, -, -, z, y⟩ | ⟨-, -, -, z, y⟩
        · exact ⟨fun _ => z, fun w => absurd y w⟩
        · exact ⟨fun _ => by omega, fun _ => z⟩
      have hA1 : aOk b (n + 1) (aUp s n so) (aUp g n v) (aRn r n D o) D o (if so = 3 then aUp q (D - 1) 1 else q) (if so = 0 then hs else aUp hs v so) p' := by
        refine ⟨by omega, a2, hb, hp'b, fun i hi => ?_, fun k hk => by have := a6 k hk; omega, fun k hk => ?_, fun h hh => ?_⟩
        · show aUp s n so i ≤ 3 ∧ aRn r n D o i ≤ 8 ∧ (aUp s n so i = 0 → aUp g n v i ≤ 12) ∧ (aUp s n so i ≠ 0 → aUp g n v i ≤ 9)
          have hi' : i < n + 1 := hi
          unfold aUp aRn
          by_cases z : i = n
          · rw [if_pos z, if_pos z, if_pos z]
            exact ⟨hso, Nat.zero_le _, hv.1, hv.2⟩
          · rw [if_neg z, if_neg z, if_neg z]
            obtain ⟨y1, y2, y3, y4⟩ := a5 i (show i < n by omega)
            refine ⟨y1, ?_, y3, y4⟩
            have y2' : r i ≤ 8 := y2
            by_cases w : 0 < D ∧ i = o (D - 1)
            · rw [if_pos w]
              have : r i ≠ 8 := fun x => k1 ⟨w.1, by rw [← w.2]; exact x⟩
              omega
            · rw [if_neg w]; exact y2'
        · by_cases z : so = 3
          · rw [if_pos z]; unfold aUp
            by_cases y : k = D - 1
            · rw [if_pos y]; exact Nat.le_refl _
            · rw [if_neg y]; exact a7 k hk
          · rw [if_neg z]; exact a7 k hk
        · by_cases z : so = 0
          · rw [if_pos z]; exact a8 h hh
          · rw [if_neg z]; unfold aUp
            by_cases y : h = v
            · rw [if_pos y]; exact hso
            · rw [if_neg y]; exact a8 h hh
      have hq0 : so = 3 → q (D - 1) = 0 := fun z => by
        have := a7 (D - 1) (by have := hso3 z; omega)
        have : q (D - 1) ≠ 1 := fun y => k3 ⟨by omega, Or.inr ⟨z, y⟩⟩
        omega
      have hInv : aInv (n + 1) (aUp s n so) (aUp g n v) (aRn r n D o) D o (if so = 3 then aUp q (D - 1) 1 else q) ∧ aInv (n + 1) (aUp s n so) (aUp g n v) (aRn r n D o) (D + 1) (aUp o D n) (aUp (if so = 3 then aUp q (D - 1) 1 else q) D 0) := by
        rcases Nat.eq_zero_or_pos D with hD | hD
        · have hn0 : n = 0 := by rcases hnD with z | z <;> omega
          subst hD
          subst hn0
          have h3 : so ≠ 3 := fun z => by have := hso3 z; omega
          rw [if_neg h3]
          refine ⟨aInv_first h3, ?_⟩
          refine aInv_open (L' := [(so, v, [])]) (gg := false) rfl (fun i hi => ?_) ?_ rfl (fun k hk => by omega) (fun k l _ h => by omega) (fun k hk => by omega) (fun i hi => ?_) rfl rfl
          · obtain rfl : i = 0 := by omega
            unfold aUp aRn
            rw [if_pos rfl, if_pos rfl, if_pos rfl]
            exact ⟨rfl, rfl, rfl⟩
          · have := okL_snoc okL_nil (v := (so, v, [])) (d := 0) (g := false) (s := []) rfl ⟨⟨fun e => absurd e h3, fun e => (by cases e)⟩, fun x hx => (by cases hx), fun k l x y h => by simp at h⟩
            exact this
          · obtain rfl : i = 0 := by omega
            exact Nat.zero_le _
        · obtain ⟨x1, L', p1, p2, p3, p4, p5, p6, p7, p8, p9, p10⟩ := aInv_next (v := v) hI hD hD7 hq0
          exact ⟨x1, aInv_open p1 p2 p3 p4 (fun k hk => ⟨a6 k hk, (p5 k hk).2⟩) p6 p7 p8 p9 p10⟩
      obtain ⟨z1, z2, z3, z4⟩ := aHol_next hH a6 hd k3
      have htx1 : ∀ i, i < b → I1 1 i = J1 91 i := fun i hi => by
        rw [f3 1 (by decide) (by decide) (by decide) (by decide) (by omega) (by omega), g3.1 91 (by decide) (by decide) (by decide) (by decide) (by decide)]
        exact htx0 i hi
      have h31 : I1 (t + 3) 0 = 0 := by rw [f3 (t + 3) (by omega) (by omega) (by omega) (by omega) (by omega) (by omega)]; exact h30
      have hsn : aUp s n so n = so := by unfold aUp; rw [if_pos rfl]
      obtain ⟨op1, op2⟩ := X2_opens (F := F) hK f2 hA1 (by omega) hD7
      obtain ⟨qp1, qp2⟩ := X7_359 (F := F) (so := so) hRM g2 (show 1 ≤ n + 1 by omega) (by omega) hb hpb hD7 hso
      rw [← hp'] at qp1 qp2
      rw [Nat.add_sub_cancel, hsn] at op1 op2
      rw [Nat.add_sub_cancel] at qp1
      have h04 : J1 89 4 = J 89 4 := by rw [g4, zup_self_ne _ _ _ (by decide)]
      have fJ1 : aFm J J1 := aFm_tr fJ0 g3
      by_cases hop : aB (I1 1) b p' = 40 ∧ so ≠ 3
      · obtain ⟨I2, y1, y2, y3⟩ := op1 hop
        obtain ⟨J2, w1, w2, w3, w4, w5⟩ := qp1 ⟨(aB_iff htx1 p' (by decide) (by decide)).mp hop.1, hop.2⟩
        rw [eC, e1, f1, zbd2_s, if_neg (show ¬ ((1 : Int32) = 0) by decide), y1, zbd2_s, if_neg (show ¬ ((1 : Int32) = 0) by decide), eJ, e2, g1, w1, zbd2_s, if_neg (show ¬ ((1 : Int32) = 0) by decide)]
        have hc1 : so ≠ 1 := fun z => by
          rcases hd with ⟨-, -, -, -, y⟩ | ⟨-, -, -, -, y⟩
          · omega
          · have : p' = p + 1 := by rw [hp', if_neg (by omega)]
            have h40 : aB (I 1) b (p + 1) = 40 := by
              rw [← this]
              have := hop.1
              rw [f3 1 (by decide) (by decide) (by decide) (by decide) (by omega) (by omega)] at this
              exact this
            rw [h40] at y
            unfold aHs at y
            rw [if_pos rfl] at y
            omega
        refine aOut_fr (aFr_tr f3 y3) (aFm_tr fJ1 w3) (w5.trans h04) (ih (p' + 1) (rd + 1) f f' (n + 1) (D + 1) I2 J2 _ _ _ _ _ _ ?_ ?_ y2 w2 ?_ hInv.2 ?_ (Or.inr (by omega)) ?_ w4 ?_ ?_ ?_)
        · exact (aAr1 he hp1 (Nat.le_refl _) hf' hlt).1
        · exact Nat.succ_le_succ (Nat.le_trans hrd (Nat.le_of_succ_le hp1))
        · obtain ⟨b1, b2, b3, b4, b5, b6, b7, b8⟩ := hA1
          refine ⟨b1, by omega, b3, ?_, b5, fun k hk => ?_, fun k hk => ?_, b8⟩
          · rcases Nat.lt_or_ge p' b with h | h
            · exact h
            · exfalso
              have := hop.1
              unfold aB at this
              rw [if_neg (by omega)] at this
              cases this
          · unfold aUp
            by_cases z : k = D
            · rw [if_pos z]; omega
            · rw [if_neg z]; exact b6 k (by omega)
          · show aUp _ D 0 k ≤ 1
            by_cases z : k = D
            · rw [z]; show (if D = D then 0 else _) ≤ 1; rw [if_pos rfl]; exact Nat.zero_le _
            · have := b7 k (by omega)
              show (if k = D then 0 else _) ≤ 1
              rw [if_neg z]; exact this
        · refine ⟨z1, z2, fun k hk => ?_, fun i hi y => ?_⟩
          · by_cases z : k = D
            · rw [z, show aUp o D n D = n from if_pos rfl, hsn]; omega
            · rw [show aUp o D n k = o k from if_neg z]; exact z3 k (by omega)
          · rcases z4 i hi y with w | w
            · exact Or.inl w
            · refine Or.inr ⟨by omega, ?_⟩
              rw [w.1, Nat.add_sub_cancel]
              exact (if_pos rfl).symm
        · exact fun i hi => by rw [y3 1 (by decide) (by decide) (by decide) (by decide) (by omega) (by omega), w3.1 91 (by decide) (by decide) (by decide) (by decide) (by decide)]; exact htx1 i hi
        · rw [y3 (t + 3) (by omega) (by omega) (by omega) (by omega) (by omega) (by omega)]; exact h31
        · exact Nat.lt_of_succ_lt_succ hf
        · exact (aAr1 he hp1 (Nat.le_refl _) hf' hlt).2
      · have y1 := op2 hop
        obtain ⟨J2, w1, w2, w3, w4, w5⟩ := qp2 (fun z => hop ⟨(aB_iff htx1 p' (by decide) (by decide)).mpr z.1, z.2⟩)
        have w14 : J2 89 14 = 0 := by rw [w4, g4, zup_self]
        have htx2 : ∀ i, i < b → I1 1 i = J2 91 i := fun i hi => by rw [w3.1 91 (by decide) (by decide) (by decide) (by decide) (by decide)]; exact htx1 i hi
        have hc2 : so ≠ 2 := fun z => by
          rcases hd with ⟨-, -, -, -, y⟩ | ⟨-, -, -, -, y⟩
          · omega
          · have hpp : p' = p + 1 := by rw [hp', if_neg (by omega)]
            refine hop ⟨?_, by omega⟩
            rw [hpp, f3 1 (by decide) (by decide) (by decide) (by decide) (by omega) (by omega)]
            unfold aHs at y
            by_cases h40 : aB (I 1) b (p + 1) = 40
            · exact h40
            · rw [if_neg h40] at y
              by_cases h42 : aB (I 1) b (p + 1) = 42
              · rw [if_pos h42] at y
                by_cases h0 : D = 0
                · rw [if_pos h0] at y; omega
                · rw [if_neg h0] at y; omega
              · rw [if_neg h42] at y; omega
        obtain ⟨D', p2, f2', I2, J3, u1, u2, u3, u4, u5, u6, u7, u8, u9, u10, u11, u12, u13⟩ := closes_both (F := F) hK hRM D p' F f' I1 J2 f2 w2 hA1 w14 htx2 (Nat.lt_of_le_of_lt hD7 (Nat.lt_of_lt_of_le (by decide) hF)) (aAr2 hp1 hf')
        rw [eC, e1, f1, zbd2_s, if_neg (show ¬ ((1 : Int32) = 0) by decide), y1, zbd2_s, if_pos rfl, show f_X2_closeNodes F K I1 R 6 = some I2 from u5, zbd_s, eJ, e2, g1, w1, zbd2_s, if_neg (show ¬ ((1 : Int32) = 0) by decide), u6]
        obtain ⟨v1, v2, v3, ⟨v4, v5, v6⟩, v7⟩ := u7
        have u7' : aPc K I2 R t b (n + 1) (aUp s n so) (aUp g n v) (aRn r n D o) D' o (if so = 3 then aUp q (D - 1) 1 else q) (if so = 0 then hs else aUp hs v so) p2 := ⟨v1, v2, v3, ⟨v4, v5, v6⟩, v7⟩
        have u8' := u8
        obtain ⟨⟨j3, j12, j13⟩, jTm, j8⟩ := u8
        obtain ⟨f3', rfl⟩ : ∃ y, f2' = y + 2 := ⟨f2' - 2, aAr3 hp1 hf' u3 u4 hlt⟩
        have fIt : aFr t I I2 := aFr_tr f3 u11
        have fJt : aFm J J3 := aFm_tr fJ1 (aFm_tr w3 u12)
        have h4t : J3 89 4 = J 89 4 := u10.trans (w5.trans h04)
        have htx3 : ∀ i, i < b → I2 1 i = J3 91 i := fun i hi => by rw [u11 1 (by decide) (by decide) (by decide) (by decide) (by omega) (by omega), u12.1 91 (by decide) (by decide) (by decide) (by decide) (by decide)]; exact htx2 i hi
        have h32 : I2 (t + 3) 0 = 0 := by rw [u11 (t + 3) (by omega) (by omega) (by omega) (by omega) (by omega) (by omega)]; exact h31
        have eS : f_X7_reads_54 F zKm RM 89 (f3' + 2) J3 1 = if J3 89 12 = (0 : Int32) then f_X7_reads_54 F zKm RM 89 (f3' + 1) J3 0 else (zbd (f_X7_byteAt F zKm J3 RM 89 (J3 89 13)) fun v9 => if v9 = (44 : Int32) then f_X7_reads_54 F zKm RM 89 (f3' + 1) (zup (zup J3 89 13 (J3 89 13 + 1)) 89 14 1) 1 else (zbd (f_X7_byteAt F zKm J3 RM 89 (J3 89 13)) fun v12 => if v12 = (41 : Int32) then f_X7_reads_54 F zKm RM 89 (f3' + 1) (zup (zup J3 89 13 (J3 89 13 + 1)) 89 12 (zup J3 89 13 (J3 89 13 + 1) 89 12 - 1)) 1 else some (0, zup (zup J3 89 4 1) 89 13 (J3 89 13)))) := by
          show g_X7_reads_54 F zKm RM 89 (f_X7_reads_54 F zKm RM 89 (f3' + 1)) J3 1 = _
          unfold g_X7_reads_54
          rw [if_neg (show ¬ ((1 : Int32) = 0) by decide), if_pos u9]
          rfl
        rw [eS, j12, v6]
        have hD8' : D' ≤ 8 := by omega
        rcases Nat.eq_zero_or_pos D' with hD0 | hD0
        · rw [if_pos ((ni0 (by omega)).mpr hD0), if_pos ((ni0 (by omega)).mpr hD0)]
          have eE : f_X7_reads_54 F zKm RM 89 (f3' + 1) J3 0 = if nI p2 = nI b then some (1, J3) else some (0, zup (zup J3 89 4 1) 89 13 (nI p2)) := by
            show g_X7_reads_54 F zKm RM 89 _ J3 0 = _
            unfold g_X7_reads_54
            rw [if_pos rfl, j13, j3]
            rfl
          rw [eE]
          by_cases hpe : p2 = b
          · obtain ⟨T, t1, t2, t3⟩ := aInv_end (aInv_le hInv.1 (show 0 ≤ D by omega)) (hs := if so = 0 then hs else aUp hs v so) (o' := o) (q' := q) ⟨z1, z2, fun k hk => by omega, fun i hi y => (z4 i hi y).imp id (fun w => absurd w.2 hc2)⟩ (by omega) (by omega) hA1.2.2.2.2.1
            have hk : zTk K I2 R t T := by
              obtain ⟨q1, q2, q3, q4, q5, q6, q7, q8, q9⟩ := v1
              refine ⟨q1, q2, q3, q4, q5, q6, q7, by rw [t2]; exact q8, fun i hi => ?_⟩
              rw [t2] at hi
              obtain ⟨r1, r2, r3⟩ := t3 i hi
              have := q9 i hi
              unfold tcode at this ⊢
              rw [r1, r2, r3]
              exact this
            obtain ⟨I3, s1, s2, s3⟩ := X5_settle (F := F) (by omega) t1.1 (tNd_c t1.2.1) hk h32
            refine ⟨some t, 1, I3, J3, ?_, by rw [if_pos (by rw [hpe])], fun x x1 x2 x3 x4 x5 x6 x7 x8 => by rw [s3 x x7 x8, fIt x x1 x2 x3 x4 x5 x6], fJt, Or.inr ⟨rfl, rfl, h4t, T, t1, s2, ?_⟩⟩
            · unfold f_X2_ends
              rw [v4, v5, if_pos (nI_le (by omega) (by omega)), v3.2.1, zbd_s, zdr_s (t := 15) (by rw [v1.1]), zbd_s, s1, zbd_s, zbd2_s, if_neg (by decide), zbd_s]
            · refine ⟨by rw [t2]; exact jTm.1, fun i hi => ?_⟩
              rw [t2] at hi
              obtain ⟨r1, r2, r3⟩ := t3 i hi
              rw [r1, r2, r3]
              exact jTm.2 i hi
          · refine ⟨none, 0, zup I2 6 3 1, zup (zup J3 89 4 1) 89 13 (nI p2), ?_, by rw [if_neg (fun z => hpe (nI_inj (by omega) (by omega) z))], fun x x1 x2 x3 x4 x5 x6 x7 x8 => by rw [zup_ne _ _ _ x1, fIt x x1 x2 x3 x4 x5 x6], aFm_tr fJt ⟨fun x x1 _ _ _ _ => by rw [zup_ne _ _ _ x1, zup_ne _ _ _ x1], fun y _ => by rw [zup_ne _ _ _ (by decide), zup_ne _ _ _ (by decide)], fun y hy => by rw [zup_self_ne _ _ _ (by omega), zup_self_ne _ _ _ (by omega)]⟩, Or.inl ⟨rfl, rfl, by rw [zup_self, zup_self_ne _ _ _ (by decide), zup_self], by rw [zup_self_ne _ _ _ (by decide), zup_self]; exact v5⟩⟩
            unfold f_X2_ends
            rw [v4, v5, if_neg (nI_ge (by omega) (by omega))]
            rfl
        · rw [if_neg (fun z => by have := (ni0 (by omega)).mp z; omega), if_neg (fun z => by have := (ni0 (by omega)).mp z; omega), j13, X7_byteAt hRM j3 hb (by omega), zbd_s, zbd_s]
          have h41 : aB (I2 1) b p2 ≠ 41 := by
            rw [u11 1 (by decide) (by decide) (by decide) (by decide) (by omega) (by omega)]
            exact u13.resolve_left (by omega)
          have eK : f_X2_readComma F K I2 R 6 = if aB (I2 1) b p2 = 44 then some (1, zup I2 6 2 (nI (p2 + 1))) else some (0, zup I2 6 3 1) := by
            unfold f_X2_readComma
            rw [v5, X2_byteAt hK v3.1 v4 hb (by omega), zbd_s, nI_1]
            rfl
          rw [eK]
          by_cases h44 : aB (I2 1) b p2 = 44
          · rw [if_pos h44, zbd2_s, if_neg (show ¬ ((1 : Int32) = 0) by decide), if_pos ((aB_iff htx3 p2 (by decide) (by decide)).mp h44), nI_1]
            have hp2b : p2 < b := by
              rcases Nat.lt_or_ge p2 b with h | h
              · exact h
              · exfalso
                unfold aB at h44
                rw [if_neg (by omega)] at h44
                cases h44
            have x6 : ∀ x, x ≠ 6 → zup I2 6 2 (nI (p2 + 1)) x = I2 x := fun x hx => zup_ne _ _ _ hx
            have x90 : ∀ x, x ≠ 89 → zup (zup J3 89 13 (nI (p2 + 1))) 89 14 1 x = J3 x := fun x hx => by rw [zup_ne _ _ _ hx, zup_ne _ _ _ hx]
            have y90 : ∀ y, y ≠ 13 → y ≠ 14 → zup (zup J3 89 13 (nI (p2 + 1))) 89 14 1 89 y = J3 89 y := fun y h1 h2 => by rw [zup_self_ne _ _ _ h2, zup_self_ne _ _ _ h1]
            refine aOut_fr (aFr_tr fIt (fun x x1 _ _ _ _ _ => x6 x x1)) (aFm_tr fJt ⟨fun x x1 _ _ _ _ => x90 x x1, fun y _ => by rw [x90 90 (by decide)], fun y hy => y90 y (by omega) (by omega)⟩) (by rw [y90 4 (by decide) (by decide)]; exact h4t) (ih (p2 + 1) (rd + 1) f (f3' + 1) (n + 1) D' _ _ _ _ _ _ _ (if so = 0 then hs else aUp hs v so) ?_ ?_ ?_ ?_ ?_ (aInv_le hInv.1 u1) ?_ (Or.inr hD0) ?_ (zup_self _ _ _ _) ?_ ?_ ?_)
            · exact (aAr1 he hp1 u2 hf' hlt).1
            · exact Nat.succ_le_succ (Nat.le_trans hrd (Nat.le_trans (Nat.le_of_succ_le hp1) u2))
            · obtain ⟨v7, v8, v9⟩ := v7
              exact ⟨zTk_row v1 (x6 t (by omega)) (x6 (t + 1) (by omega)), v2, v3, ⟨by rw [zup_self_ne _ _ _ (by decide)]; exact v4, zup_self _ _ _ _, by rw [zup_self_ne _ _ _ (by decide)]; exact v6⟩, by rw [x6 12 (by decide)]; exact v7, by rw [x6 13 (by decide)]; exact v8, by rw [x6 14 (by decide)]; exact v9⟩
            · obtain ⟨j8, j9, j10, j11⟩ := j8
              exact ⟨⟨by rw [y90 3 (by decide) (by decide)]; exact j3, by rw [y90 12 (by decide) (by decide)]; exact j12, by rw [zup_self_ne _ _ _ (by decide), zup_self]⟩, by rw [x90 90 (by decide)]; exact jTm, by rw [x90 97 (by decide)]; exact j8, by rw [x90 98 (by decide)]; exact j9, by rw [x90 98 (by decide)]; exact j10, by rw [x90 96 (by decide)]; exact j11⟩
            · obtain ⟨b1, b2, b3, b4, b5, b6, b7, b8⟩ := hA1
              exact ⟨b1, hD8', b3, hp2b, b5, fun k hk => b6 k (by omega), fun k hk => b7 k (by omega), b8⟩
            · exact ⟨z1, z2, fun k hk => z3 k (by omega), fun i hi y => (z4 i hi y).imp id (fun w => absurd w.2 hc2)⟩
            · exact fun i hi => by rw [x6 1 (by decide), x90 91 (by decide)]; exact htx3 i hi
            · rw [x6 (t + 3) (by omega)]; exact h32
            · exact Nat.lt_of_succ_lt_succ hf
            · exact aAr4 hp1 hf' hp2b u4 hlt
          · rw [if_neg h44, zbd2_s, if_pos rfl, if_neg (fun z => h44 ((aB_iff htx3 p2 (by decide) (by decide)).mpr z)), if_neg (fun z => h41 ((aB_iff htx3 p2 (by decide) (by decide)).mpr z))]
            exact ⟨none, 0, zup I2 6 3 1, zup (zup J3 89 4 1) 89 13 (nI p2), rfl, rfl, fun x x1 x2 x3 x4 x5 x6 x7 x8 => by rw [zup_ne _ _ _ x1, fIt x x1 x2 x3 x4 x5 x6], aFm_tr fJt ⟨fun x x1 _ _ _ _ => by rw [zup_ne _ _ _ x1, zup_ne _ _ _ x1], fun y _ => by rw [zup_ne _ _ _ (by decide), zup_ne _ _ _ (by decide)], fun y hy => by rw [zup_self_ne _ _ _ (by omega), zup_self_ne _ _ _ (by omega)]⟩, Or.inl ⟨rfl, rfl, by rw [zup_self, zup_self_ne _ _ _ (by decide), zup_self], by rw [zup_self_ne _ _ _ (by decide), zup_self]; exact v5⟩⟩
    · exact flt 1 e1 (bg2 (fun ⟨v, v1, v2⟩ => no1 ⟨v, v1, (aB_iff htx0 p (aNe0 (by omega) (by omega)) (nim9 (by omega))).mpr v2⟩) (fun ⟨v, v1, v2⟩ => no2 ⟨v, v1, (aB_iff htx0 p (aNe0 (by omega) (by omega)) (nim9 (by omega))).mpr v2⟩))
end ZPG
