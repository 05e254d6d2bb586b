/-! THE LAW'S PARTS over the class: joins, all, rules, undoes answer 1 -/
theorem fvA_ov (tb : pTb) (h : Nat) : fv (pFA tb) h 0 = ov tb h 0 ∧ fv (pFA tb) h 1 = ov tb h 1 ∧ fv (pFB tb) h 0 = ov tb h 2 ∧ fv (pFB tb) h 1 = ov tb h 3 := by
  unfold fv ov pFA pFB
  cases tb[h]? with
  | none => exact ⟨rfl, rfl, rfl, rfl⟩
  | some e => exact ⟨rfl, rfl, rfl, rfl⟩
theorem gCv_some {S : gSt} {P A : aFo} {d x : Nat} {s : Int32} (hA : S x = some A) (hm : mv P A = true) : gCv S P (d + 1) s x = gCv S P d (s ||| ((1 : Int32) <<< (nI x &&& 31))) (x + 1) := by
  rw [gCv, hA]
  show gCv S P d (if mv P A = true then _ else s) (x + 1) = _
  rw [if_pos hm]
theorem gCv_any (S : gSt) (P : aFo) (d x : Nat) (s : Int32) : gCv S P (d + 1) s x = gCv S P d s (x + 1) ∨ gCv S P (d + 1) s x = gCv S P d (s ||| ((1 : Int32) <<< (nI x &&& 31))) (x + 1) := by
  rw [gCv]
  cases S x with
  | none => exact Or.inl rfl
  | some A =>
    show gCv S P d (if mv P A = true then _ else s) (x + 1) = _ ∨ gCv S P d (if mv P A = true then _ else s) (x + 1) = _
    by_cases h : mv P A = true
    · rw [if_pos h]; exact Or.inr rfl
    · rw [if_neg h]; exact Or.inl rfl
theorem gCv_27 {S : gSt} {P A0 A1 A3 A4 : aFo} (h0 : S 0 = some A0) (h1 : S 1 = some A1) (h3 : S 3 = some A3) (h4 : S 4 = some A4) (m0 : mv P A0 = true) (m1 : mv P A1 = true) (m3 : mv P A3 = true) (m4 : mv P A4 = true) : gCv S P 8 0 0 &&& (27 : Int32) = 27 := by
  rw [gCv_some (d := 7) h0 m0, gCv_some (d := 6) h1 m1]
  rcases gCv_any S P 5 2 (0 ||| ((1 : Int32) <<< (nI 0 &&& 31)) ||| ((1 : Int32) <<< (nI (0 + 1) &&& 31))) with e | e <;> rw [e, gCv_some (d := 4) h3 m3, gCv_some (d := 3) h4 m4]
  all_goals
    rcases gCv_any S P 2 5 _ with e | e <;> rw [e]
  all_goals
    rcases gCv_any S P 1 6 _ with e | e <;> rw [e]
  all_goals
    rcases gCv_any S P 0 7 _ with e | e <;> rw [e]
  all_goals
    rw [gCv]
    decide
section LP
variable {F n : Nat} {K : zK} {I : zI} {R : zR} {S : gSt} {c : Nat → Int32} {H : List (gSt × (Nat → Int32))} {P Q T U V : aFo} {hd : Bool} {tb : pTb}
theorem mv_A (h : jn hd T U 0 0 [] = some (P, tb)) : mv P T = true := by unfold mv; rw [show mt P T 0 (fun _ => none) = some (pFA tb) from jn_mtA _ _ _ _ _ _ _ h (Nat.zero_le _)]; rfl
theorem mv_B (h : jn hd T U 0 0 [] = some (P, tb)) (hl : qLn T = qLn U) : mv P U = true := by unfold mv; rw [show mt P U 0 (fun _ => none) = some (pFB tb) from jn_mtB h hl (Nat.zero_le _)]; rfl
theorem mv_self (h : gGd P) : mv P P = true := by
  obtain ⟨f, hf⟩ := mt_self h
  unfold mv
  rw [hf]
  rfl
theorem mi_1 (h : mv P Q = true) : mi P Q = 1 := by unfold mi; rw [if_pos h]
theorem cmp_0 (h : mv P Q = true) (h' : mv Q P = true) : cmpv P Q = 0 := by unfold cmpv; rw [if_pos h, if_pos h']
theorem cS_gd (h : cS K I R n S c H) {r : Nat} (hr : r < 8) (hP : S r = some P) : gGd P ∧ 1 ≤ qSz P ∧ qSz P ≤ 14 := by
  obtain ⟨J, RM, -, h2, -⟩ := h
  have := (gBl_some h2 hr hP).1
  have l := q_len_sz P
  have := this.1
  exact ⟨‹gGd P›, by omega, ‹gGd P›.2.1⟩
theorem jn_sw0 (hl : qLn T = qLn U) : jn hd U T 0 0 [] = (jn hd T U 0 0 []).map (fun x => (x.1, x.2.map pSw)) := jn_sw T U 0 0 [] hl
/-- the loop over the holes -/
theorem l_holes (hF : 5000 ≤ F) (h0 : S 0 = some T) (h1 : S 1 = some U) (h3 : S 3 = some P) (hj : jn hd T U 0 0 [] = some (P, tb)) (hl : qLn T = qLn U) (hc1 : c 1 = 0) (hc0 : c 0 = 1 ↔ hd = true) (x1 : Int32) : ∀ (d x f z n : Nat) (K : zK) (I : zI) (R : zR), cS K I R n S c [] → x + d = 10 → d < f → d < z → ∃ n' K' I' R' z', f_L_joins_176 F f z n K I R (some 0) x1 1 (nI x) = f_L_joins_283 F z' n' K' I' R' (some 0) x1 1 ∧ cS K' I' R' n' S c [] := by
  intro d
  induction d with
  | zero =>
    intro x f z n K I R h hx hf hz
    obtain ⟨f, rfl⟩ : ∃ g, f = g + 1 := ⟨f - 1, by omega⟩
    obtain ⟨z, rfl⟩ : ∃ g, z = g + 1 := ⟨z - 1, by omega⟩
    obtain rfl : x = 10 := by omega
    exact ⟨n, K, I, R, z, rfl, h⟩
  | succ d ih =>
    intro x f z n K I R h hx hf hz
    obtain ⟨f, rfl⟩ : ∃ g, f = g + 1 := ⟨f - 1, by omega⟩
    obtain ⟨z, rfl⟩ : ∃ g, z = g + 1 := ⟨z - 1, by omega⟩
    have mA : mt P T 0 (fun _ => none) = some (pFA tb) := jn_mtA _ _ _ _ _ _ _ hj (Nat.zero_le _)
    have mB : mt P U 0 (fun _ => none) = some (pFB tb) := jn_mtB hj hl (Nat.zero_le _)
    obtain ⟨o1, o2, o3, o4⟩ := fvA_ov tb x
    obtain ⟨I1, R1, a1, a2⟩ := c_filled hF h (show 3 < 8 by decide) (show 0 < 8 by decide) h3 h0 mA (show x < 10 by omega) (show 0 < 2 by decide)
    obtain ⟨n2, K2, I2, R2, b1, b2⟩ := c_origin hF a2 (show 0 < 8 by decide) (show 1 < 8 by decide) h0 h1 hc1 hc0 hj (show x < 10 by omega) (show 0 < 4 by decide)
    obtain ⟨I3, R3, a3, a4⟩ := c_filled hF b2 (show 3 < 8 by decide) (show 1 < 8 by decide) h3 h1 mB (show x < 10 by omega) (show 0 < 2 by decide)
    obtain ⟨n4, K4, I4, R4, b3, b4⟩ := c_origin hF a4 (show 0 < 8 by decide) (show 1 < 8 by decide) h0 h1 hc1 hc0 hj (show x < 10 by omega) (show 2 < 4 by decide)
    obtain ⟨I5, R5, a5, a6⟩ := c_filled hF b4 (show 3 < 8 by decide) (show 0 < 8 by decide) h3 h0 mA (show x < 10 by omega) (show 1 < 2 by decide)
    obtain ⟨n6, K6, I6, R6, b5, b6⟩ := c_origin hF a6 (show 0 < 8 by decide) (show 1 < 8 by decide) h0 h1 hc1 hc0 hj (show x < 10 by omega) (show 1 < 4 by decide)
    obtain ⟨I7, R7, a7, a8⟩ := c_filled hF b6 (show 3 < 8 by decide) (show 1 < 8 by decide) h3 h1 mB (show x < 10 by omega) (show 1 < 2 by decide)
    obtain ⟨n8, K8, I8, R8, b7, b8⟩ := c_origin hF a8 (show 0 < 8 by decide) (show 1 < 8 by decide) h0 h1 hc1 hc0 hj (show x < 10 by omega) (show 3 < 4 by decide)
    obtain ⟨n', K', I', R', z', e1, e2⟩ := ih (x + 1) f z n8 K8 I8 R8 b8 (by omega) (by omega) (by omega)
    refine ⟨n', K', I', R', z', ?_, e2⟩
    rw [← e1]
    show g_L_joins_176 F (f_L_joins_176 F f) (z + 1) n K I R (some 0) x1 1 (nI x) = _
    unfold g_L_joins_176
    show (if (10 : Int32) ≤ nI x then _ else _) = _
    rw [if_neg (show ¬ ((10 : Int32) ≤ nI x) from nI_ge (b := 10) (by omega) (by decide)), if_neg (by decide), zdr_s (cS_k h), zbd_s, show f_X6_filled F K I R 0 (3 : Int32) (0 : Int32) (nI x) (0 : Int32) = _ from a1, zbd3_s, show f_X6_origin F n K I1 R1 0 (0 : Int32) (1 : Int32) (nI x) (0 : Int32) = _ from b1, zbd5_s, if_pos o1, if_pos (cS_k b2), show f_X6_filled F K2 I2 R2 0 (3 : Int32) (1 : Int32) (nI x) (0 : Int32) = _ from a3, zbd3_s, show f_X6_origin F n2 K2 I3 R3 0 (0 : Int32) (1 : Int32) (nI x) (2 : Int32) = _ from b3, zbd5_s, if_pos o3, if_pos (cS_k b4), show f_X6_filled F K4 I4 R4 0 (3 : Int32) (0 : Int32) (nI x) (1 : Int32) = _ from a5, zbd3_s, show f_X6_origin F n4 K4 I5 R5 0 (0 : Int32) (1 : Int32) (nI x) (1 : Int32) = _ from b5, zbd5_s, if_pos o2, if_pos (cS_k b6), show f_X6_filled F K6 I6 R6 0 (3 : Int32) (1 : Int32) (nI x) (1 : Int32) = _ from a7, zbd3_s, show f_X6_origin F n6 K6 I7 R7 0 (0 : Int32) (1 : Int32) (nI x) (3 : Int32) = _ from b7, zbd5_s, if_pos o4]
    unfold f_L_joins_276
    rw [nI_1]
def l_B (S : gSt) (T U V : aFo) : Prop := S 0 = some T ∧ S 1 = some U ∧ S 2 = some V
theorem l_B_up (h : l_B S T U V) {o : Nat} (ho : 3 ≤ o) (v : Option aFo) : l_B (gUp S o v) T U V := by
  obtain ⟨h0, h1, h2⟩ := h
  unfold l_B gUp
  rw [if_neg (by omega), if_neg (by omega), if_neg (by omega)]
  exact ⟨h0, h1, h2⟩
theorem gUp_at (S : gSt) (o : Nat) (v : Option aFo) : gUp S o v o = v := if_pos rfl
theorem gUp_ne (S : gSt) {o r : Nat} (v : Option aFo) (h : r ≠ o) : gUp S o v r = S r := if_neg h
theorem l_joins (hF : 5000 ≤ F) (h : cS K I R n S c []) (hB : l_B S T U V) (h3 : S 3 = none) (pT : pHF T) (hc1 : c 1 = 0) (hc0 : c 0 = 1 ↔ hd = true) {x1 : Int32} (hx : ¬ x1 < 0) : ∃ n' K' I' R' S', f_L_joins F n K I R (some 0) x1 = some (1, n', K', I', R') ∧ cS K' I' R' n' S' c [] ∧ l_B S' T U V := by
  obtain ⟨gT, t1, t2⟩ := cS_gd h (show 0 < 8 by decide) hB.1
  obtain ⟨gU, u1, u2⟩ := cS_gd h (show 1 < 8 by decide) hB.2.1
  have hl : qLn T = qLn U := by rw [gT.1, gU.1]
  have k0 := cS_k h
  obtain ⟨v, n1, K1, I1, R1, e1, e2⟩ := c_join hF h (show 0 < 8 by decide) (show 1 < 8 by decide) (show 3 < 8 by decide) hB.1 hB.2.1 hc1 hc0
  unfold f_L_joins
  rw [zdr_s k0, zbd_s, show f_X6_join F n K I R 0 (0 : Int32) (1 : Int32) (3 : Int32) = _ from e1, zbd5_s]
  rcases e2 with ⟨j0, rfl, s1⟩ | ⟨P, tb, hj, rfl, s1⟩
  · -- the pattern would be too large
    obtain ⟨v', n2, K2, I2, R2, f1, f2⟩ := c_join hF s1 (show 1 < 8 by decide) (show 0 < 8 by decide) (show 4 < 8 by decide) hB.2.1 hB.1 hc1 hc0
    rcases f2 with ⟨-, rfl, s2⟩ | ⟨P, tb, hj, -⟩
    · refine ⟨n2, K2, I2, R2, S, ?_, s2, hB⟩
      rw [if_pos rfl, if_pos (cS_k s1), show f_X6_join F n1 K1 I1 R1 0 (1 : Int32) (0 : Int32) (4 : Int32) = _ from f1, zbd5_s, if_pos rfl, if_pos (cS_k s2), show f_X6_node F K2 I2 R2 0 (3 : Int32) (0 : Int32) (0 : Int32) = _ from c_node_e hF s2 (show 3 < 8 by decide) h3, zbd_s, if_pos rfl]
    · rw [jn_sw0 hl, j0] at hj
      cases hj
  · have hB1 := l_B_up hB (show 3 ≤ 3 by decide) (some P)
    have hP1 : gUp S 3 (some P) 3 = some P := gUp_at _ _ _
    obtain ⟨gP, p1, p2⟩ := cS_gd s1 (show 3 < 8 by decide) hP1
    have mT := mv_A hj
    have mU := mv_B hj hl
    have mP := mv_self gP
    have mTT := mv_self gT
    obtain ⟨I2, R2, e2, s2⟩ := c_covers hF s1 (show 3 < 8 by decide) (show 0 < 8 by decide) hP1 hB1.1
    rw [mi_1 mT] at e2
    obtain ⟨I3, R3, e3, s3⟩ := c_covers hF s2 (show 3 < 8 by decide) (show 1 < 8 by decide) hP1 hB1.2.1
    rw [mi_1 mU] at e3
    obtain ⟨v4, n4, K4, I4, R4, e4, s4⟩ := c_join hF s3 (show 1 < 8 by decide) (show 0 < 8 by decide) (show 4 < 8 by decide) hB1.2.1 hB1.1 hc1 hc0
    have hj' : jn hd U T 0 0 [] = some (P, tb.map pSw) := by rw [jn_sw0 hl, hj]; rfl
    rcases s4 with ⟨j0, -⟩ | ⟨P', tb', j0, rfl, s4⟩
    · rw [hj'] at j0; cases j0
    rw [hj'] at j0
    cases j0
    have hB2 := l_B_up hB1 (show 3 ≤ 4 by decide) (some P)
    have hP2 : gUp (gUp S 3 (some P)) 4 (some P) 3 = some P := by rw [gUp_ne _ _ (by decide)]; exact hP1
    have hP4 : gUp (gUp S 3 (some P)) 4 (some P) 4 = some P := gUp_at _ _ _
    obtain ⟨I5, R5, e5, s5⟩ := c_compare hF s4 (show 3 < 8 by decide) (show 4 < 8 by decide) hP2 hP4
    rw [cmp_0 mP mP] at e5
    obtain ⟨I6, R6, e6, s6⟩ := c_isLeast hF s5 (show 3 < 8 by decide) (show 0 < 8 by decide) (show 1 < 8 by decide) hP2 hB2.1 hB2.2.1 hj
    obtain ⟨I7, R7, e7, s7⟩ := c_isLeast hF s6 (show 4 < 8 by decide) (show 0 < 8 by decide) (show 1 < 8 by decide) hP4 hB2.1 hB2.2.1 hj
    obtain ⟨v8, n8, K8, I8, R8, e8, s8⟩ := c_join hF s7 (show 0 < 8 by decide) (show 0 < 8 by decide) (show 4 < 8 by decide) hB2.1 hB2.1 hc1 hc0
    rcases s8 with ⟨j0, -⟩ | ⟨P', tb', j0, rfl, s8⟩
    · rw [jn_self _ _ _ _ pT] at j0; cases j0
    rw [jn_self _ _ _ _ pT] at j0
    cases j0
    have hB3 := l_B_up hB2 (show 3 ≤ 4 by decide) (some T)
    have hP3 : gUp (gUp (gUp S 3 (some P)) 4 (some P)) 4 (some T) 3 = some P := by rw [gUp_ne _ _ (by decide)]; exact hP2
    have hT4 : gUp (gUp (gUp S 3 (some P)) 4 (some P)) 4 (some T) 4 = some T := gUp_at _ _ _
    have e9 := c_size hF s8 (show 0 < 8 by decide) hB3.1 (show 0 < 5 by decide)
    rw [zsz_0] at e9
    obtain ⟨I10, R10, e10, s10⟩ := c_compare hF s8 (show 4 < 8 by decide) (show 0 < 8 by decide) hT4 hB3.1
    rw [cmp_0 mTT mTT] at e10
    have e11 := c_size hF s10 (show 4 < 8 by decide) hT4 (show 2 < 5 by decide)
    rw [zsz_2 pT] at e11
    obtain ⟨I12, R12, e12, s12⟩ := c_covered hF s10 (show 3 < 8 by decide) hP3
    have e27 := gCv_27 hB3.1 hB3.2.1 hP3 hT4 mT mU mP mT
    obtain ⟨n13, K13, I13, R13, z', e13, s13⟩ := l_holes hF hB3.1 hB3.2.1 hP3 hj hl hc1 hc0 x1 10 0 F 11 n8 K8 I12 R12 s12 (by decide) (by omega) (by decide)
    obtain ⟨I14, R14, e14, s14⟩ := c_covers hF s13 (show 0 < 8 by decide) (show 3 < 8 by decide) hB3.1 hP3
    obtain ⟨I15, R15, e15, s15⟩ := c_compare hF s14 (show 3 < 8 by decide) (show 0 < 8 by decide) hP3 hB3.1
    obtain ⟨I16, R16, e16, s16⟩ := c_compare hF s15 (show 0 < 8 by decide) (show 3 < 8 by decide) hB3.1 hP3
    refine ⟨n13, K13, I16, R16, _, ?_, s16, hB3⟩
    rw [if_neg (show ¬ (nI (qSz P) = (-3 : Int32)) from fun e => nI_pos (n := qSz P) (by omega) (by rw [e]; decide)), if_neg (show ¬ (nI (qSz P) ≤ (0 : Int32)) from nI_nle (by omega) (by omega)), if_pos (cS_k s1), show f_X6_covers F K1 I1 R1 0 (3 : Int32) (0 : Int32) = _ from e2, zbd3_s, if_pos rfl, show f_X6_covers F K1 I2 R2 0 (3 : Int32) (1 : Int32) = _ from e3, zbd3_s, if_pos rfl, show f_X6_join F n1 K1 I3 R3 0 (1 : Int32) (0 : Int32) (4 : Int32) = _ from e4, zbd5_s, if_pos rfl, if_pos (cS_k s4), show f_X6_compare F K4 I4 R4 0 (3 : Int32) (4 : Int32) = _ from e5, zbd3_s, if_pos rfl, show f_X6_isLeast F K4 I5 R5 0 (3 : Int32) (0 : Int32) (1 : Int32) = _ from e6, zbd3_s, if_pos rfl, show f_X6_isLeast F K4 I6 R6 0 (4 : Int32) (0 : Int32) (1 : Int32) = _ from e7, zbd3_s, if_pos rfl]
    unfold f_L_joins_115
    rw [if_neg (by decide), zdr_s (cS_k s7), zbd_s, show f_X6_join F n4 K4 I7 R7 0 (0 : Int32) (0 : Int32) (4 : Int32) = _ from e8, zbd5_s, if_pos (cS_k s8), show f_X6_size F K8 I8 R8 0 (0 : Int32) (0 : Int32) = _ from e9, zbd_s, if_pos rfl, show f_X6_compare F K8 I8 R8 0 (4 : Int32) (0 : Int32) = _ from e10, zbd3_s, if_pos rfl, show f_X6_size F K8 I10 R10 0 (4 : Int32) (2 : Int32) = _ from e11, zbd_s, if_pos rfl, show f_X6_covered F K8 I10 R10 0 (3 : Int32) = _ from e12, zbd3_s, if_pos e27]
    unfold f_L_joins_172
    rw [show f_L_joins_176 F F 11 n8 K8 I12 R12 (some 0) x1 1 (0 : Int32) = _ from e13]
    unfold f_L_joins_283
    rw [zdr_s (cS_k s13), zbd_s, show f_X6_covers F K13 I13 R13 0 (0 : Int32) (3 : Int32) = _ from e14, zbd3_s]
    have e297 : ∀ s : Int32, s = (if mv T P = true then 0 else 1) → f_L_joins_297 F z' n13 K13 I14 R14 (some 0) x1 1 s = some (1, n13, K13, I16, R16) := fun s hs => by
      unfold f_L_joins_297
      rw [if_neg (by decide), zdr_s (cS_k s14), zbd_s, show f_X6_compare F K13 I14 R14 0 (3 : Int32) (0 : Int32) = _ from e15, zbd3_s]
      cases hm : mv T P with
      | true =>
        rw [hm, if_pos rfl] at hs
        have w1 : cmpv P T = 0 := cmp_0 mT hm
        have w2 : cmpv T P = 0 := cmp_0 hm mT
        rw [w2] at e16
        rw [hs, w1, if_pos rfl]
        unfold f_L_joins_319
        rw [if_pos rfl, zdr_s (cS_k s15), zbd_s, show f_X6_compare F K13 I15 R15 0 (0 : Int32) (3 : Int32) = _ from e16, zbd3_s, if_pos rfl]
        unfold f_L_joins_338
        rw [if_pos rfl, if_neg hx]
      | false =>
        rw [hm, if_neg (by decide)] at hs
        have w1 : cmpv P T = 1 := by unfold cmpv; rw [if_pos mT, hm, if_neg (by decide)]
        have w2 : cmpv T P = 2 := by unfold cmpv; rw [hm, if_neg (by decide), if_pos mT]
        rw [w2] at e16
        rw [hs, w1, if_neg (by decide)]
        unfold f_L_joins_319
        rw [if_pos rfl, zdr_s (cS_k s15), zbd_s, show f_X6_compare F K13 I15 R15 0 (0 : Int32) (3 : Int32) = _ from e16, zbd3_s, if_neg (by decide)]
        unfold f_L_joins_338
        rw [if_pos rfl, if_neg hx]
    rcases mi_01 T P with ⟨m1, m2⟩ | ⟨m1, m2⟩
    · rw [m1, if_pos rfl]
      exact e297 1 (by rw [m2, if_neg (by decide)])
    · rw [m1, if_neg (by decide)]
      exact e297 0 (by rw [m2, if_pos rfl])
theorem l_all (hF : 5000 ≤ F) (h : cS K I R n S c []) (hB : l_B S T U V) (hc1 : c 1 = 0) (hc0 : ¬ c 0 = 1) : ∃ n' K' I' R' S', f_L_all F n K I R (some 0) = some (1, n', K', I', R') ∧ cS K' I' R' n' S' c [] ∧ l_B S' T U V := by
  have hcf : c 0 = 1 ↔ false = true := ⟨fun e => absurd e hc0, fun e => (by cases e)⟩
  obtain ⟨gT, -⟩ := cS_gd h (show 0 < 8 by decide) hB.1
  obtain ⟨gU, -⟩ := cS_gd h (show 1 < 8 by decide) hB.2.1
  obtain ⟨gV, -⟩ := cS_gd h (show 2 < 8 by decide) hB.2.2
  have lTU : qLn T = qLn U := by rw [gT.1, gU.1]
  have lTV : qLn T = qLn V := by rw [gT.1, gV.1]
  have no3 : ∀ {A : aFo}, gGd A → ¬ nI (qSz A) < (0 : Int32) ∧ (0 : Int32) ≤ nI (qSz A) := fun {A} g => ⟨nI_pos (by have := g.2.1; omega), nI_pos' (by have := g.2.1; omega)⟩
  obtain ⟨v, n1, K1, I1, R1, e1, e2⟩ := c_joinAll hF h (show 5 < 8 by decide) hB.1 hB.2.1 hB.2.2 hc1 hcf
  unfold f_L_all
  rw [zdr_s (cS_k h), zbd_s, show f_X6_joinAll F n K I R 0 (7 : Int32) (5 : Int32) = _ from e1, zbd5_s]
  -- whatever the first gives: the state has the three terms
  have hst : ∃ S1, cS K1 I1 R1 n1 S1 c [] ∧ l_B S1 T U V ∧ ((v = -3) ∨ ∃ Q tQ P tP, jn false T U 0 0 [] = some (Q, tQ) ∧ jn false Q V 0 0 [] = some (P, tP) ∧ v = nI (qSz P) ∧ S1 5 = some P) := by
    rcases e2 with ⟨rfl, s⟩ | ⟨Q, tQ, P, tP, a1, a2, a3, s⟩
    · exact ⟨S, s, hB, Or.inl rfl⟩
    · exact ⟨_, s, l_B_up hB (by decide) _, Or.inr ⟨Q, tQ, P, tP, a1, a2, a3, gUp_at _ _ _⟩⟩
  obtain ⟨S1, s1, hB1, hv⟩ := hst
  have e44 : ∀ (m : Nat) (K : zK) (I : zI) (R : zR) (y : Int32), v = -3 ∨ y = -3 → f_L_all_44 F m K I R v y = some (1, m, K, I, R) := fun m K I R y hy => by
    unfold f_L_all_44 f_L_all_56
    by_cases q : v = -3
    · rw [if_pos q]
    · rw [if_neg q, if_pos (hy.resolve_left q)]
  have e35 : ∀ (m : Nat) (K : zK) (I : zI) (R : zR) (y : Int32), v = -3 ∨ y = -3 → f_L_all_35 F m K I R (some 0) v y = some (1, m, K, I, R) := fun m K I R y hy => by
    unfold f_L_all_35
    by_cases q : v < 0
    · rw [if_pos q]; exact e44 m K I R y hy
    · rw [if_neg q]
      have q2 : y = -3 := hy.resolve_left fun e => q (by rw [e]; decide)
      rw [q2, if_neg (by decide), ← q2]
      exact e44 m K I R y hy
  rw [if_pos (cS_k s1)]
  obtain ⟨w, n2, K2, I2, R2, f1, f2⟩ := c_join hF s1 (show 2 < 8 by decide) (show 1 < 8 by decide) (show 6 < 8 by decide) hB1.2.2 hB1.2.1 hc1 hcf
  rw [show f_X6_join F n1 K1 I1 R1 0 (2 : Int32) (1 : Int32) (6 : Int32) = _ from f1, zbd5_s]
  rcases f2 with ⟨-, rfl, s2⟩ | ⟨Q', tQ', jR, rfl, s2⟩
  · refine ⟨n2, K2, I2, R2, S1, ?_, s2, hB1⟩
    rw [if_neg (by decide)]
    exact e35 _ _ _ _ _ (Or.inr rfl)
  have gR := (gGd_jn gV jR).1
  have hB2 := l_B_up hB1 (show 3 ≤ 6 by decide) (some Q')
  have hR6 : gUp S1 6 (some Q') 6 = some Q' := gUp_at _ _ _
  obtain ⟨y, n3, K3, I3, R3, f3, f4⟩ := c_join hF s2 (show 6 < 8 by decide) (show 0 < 8 by decide) (show 7 < 8 by decide) hR6 hB2.1 hc1 hcf
  rw [if_pos (no3 gR).2, if_pos (cS_k s2), show f_X6_join F n2 K2 I2 R2 0 (6 : Int32) (0 : Int32) (7 : Int32) = _ from f3, zbd5_s]
  rcases f4 with ⟨-, rfl, s3⟩ | ⟨P', tP', jP, rfl, s3⟩
  · exact ⟨n3, K3, I3, R3, _, e35 _ _ _ _ _ (Or.inr rfl), s3, hB2⟩
  have hB3 := l_B_up hB2 (show 3 ≤ 7 by decide) (some P')
  rcases hv with rfl | ⟨Q, tQ, P, tP, jQ, jP5, rfl, h5⟩
  · exact ⟨n3, K3, I3, R3, _, e35 _ _ _ _ _ (Or.inl rfl), s3, hB3⟩
  obtain rfl : P = P' := three lTU lTV jQ jR jP5 jP
  have gQ := (gGd_jn gT jQ).1
  have gP := (gGd_jn gQ jP5).1
  have mP := mv_self gP
  have hP7 : gUp (gUp S1 6 (some Q')) 7 (some P) 7 = some P := gUp_at _ _ _
  have hP5 : gUp (gUp S1 6 (some Q')) 7 (some P) 5 = some P := by rw [gUp_ne _ _ (by decide), gUp_ne _ _ (by decide)]; exact h5
  have hR6' : gUp (gUp S1 6 (some Q')) 7 (some P) 6 = some Q' := by rw [gUp_ne _ _ (by decide)]; exact hR6
  have mT : mv P T = true := mv_B jP (by rw [gR.1, gT.1])
  have mV : mv P V = true := mv_B jP5 (by rw [gQ.1, gV.1])
  have mR : mv P Q' = true := mv_A jP
  have mU : mv P U = true := by
    have c1 := jn_covA jP5 (Nat.zero_le _)
    have c2 := jn_covB jQ lTU (Nat.zero_le _)
    have c3 := jn_NH _ _ _ _ _ _ _ jP5 (Nat.zero_le _)
    obtain ⟨f, hf, -⟩ := mt_of P U 0 (fun _ => none) (cov_tr _ _ _ c1 c2 c3) (fun x v hv => by cases hv)
    unfold mv
    rw [hf]
    rfl
  obtain ⟨I4, R4, e4, s4⟩ := c_compare hF s3 (show 5 < 8 by decide) (show 7 < 8 by decide) hP5 hP7
  rw [cmp_0 mP mP] at e4
  obtain ⟨I5, R5, e5, s5⟩ := c_covers hF s4 (show 5 < 8 by decide) (show 0 < 8 by decide) hP5 hB3.1
  rw [mi_1 mT] at e5
  obtain ⟨I6, R6, e6, s6⟩ := c_covers hF s5 (show 5 < 8 by decide) (show 1 < 8 by decide) hP5 hB3.2.1
  rw [mi_1 mU] at e6
  obtain ⟨I7, R7, e7, s7⟩ := c_covers hF s6 (show 5 < 8 by decide) (show 2 < 8 by decide) hP5 hB3.2.2
  rw [mi_1 mV] at e7
  obtain ⟨I8, R8, e8, s8⟩ := c_covers hF s7 (show 5 < 8 by decide) (show 6 < 8 by decide) hP5 hR6'
  rw [mi_1 mR] at e8
  refine ⟨n3, K3, I8, R8, _, ?_, s8, hB3⟩
  unfold f_L_all_35
  rw [if_neg (no3 gP).1, if_pos (no3 gP).2, if_pos rfl, zdr_s (cS_k s3), zbd_s, show f_X6_compare F K3 I3 R3 0 (5 : Int32) (7 : Int32) = _ from e4, zbd3_s, if_pos rfl, show f_X6_covers F K3 I4 R4 0 (5 : Int32) (0 : Int32) = _ from e5, zbd3_s, if_pos rfl, show f_X6_covers F K3 I5 R5 0 (5 : Int32) (1 : Int32) = _ from e6, zbd3_s, if_pos rfl, show f_X6_covers F K3 I6 R6 0 (5 : Int32) (2 : Int32) = _ from e7, zbd3_s, if_pos rfl, show f_X6_covers F K3 I7 R7 0 (5 : Int32) (6 : Int32) = _ from e8, zbd3_s, if_pos rfl]
theorem l_rules (hF : 5000 ≤ F) (h : cS K I R n S c []) (hB : l_B S T U V) (pT : pHF T) (pU : pHF U) (hc1 : c 1 = 0) (hc0 : c 0 = 1 ↔ hd = true) : ∃ n' K' I' R' S', f_L_rules F n K I R (some 0) = some (1, n', K', I', R') ∧ cS K' I' R' n' S' c [] ∧ l_B S' T U V := by
  obtain ⟨gT, -⟩ := cS_gd h (show 0 < 8 by decide) hB.1
  obtain ⟨gU, -⟩ := cS_gd h (show 1 < 8 by decide) hB.2.1
  have mT := mv_self gT
  have mU := mv_self gU
  obtain ⟨n1, K1, I1, R1, e1, s1⟩ := c_learn hF h hB.1 hB.2.1 pT pU hc1 hc0
  have hB1 := l_B_up (l_B_up hB (show 3 ≤ 6 by decide) (some T)) (show 3 ≤ 7 by decide) (some U)
  have h6 : gUp (gUp S 6 (some T)) 7 (some U) 6 = some T := by rw [gUp_ne _ _ (by decide)]; exact gUp_at _ _ _
  have h7 : gUp (gUp S 6 (some T)) 7 (some U) 7 = some U := gUp_at _ _ _
  obtain ⟨I2, R2, e2, s2⟩ := c_compare hF s1 (show 6 < 8 by decide) (show 0 < 8 by decide) h6 hB1.1
  rw [cmp_0 mT mT] at e2
  obtain ⟨I3, R3, e3, s3⟩ := c_compare hF s2 (show 7 < 8 by decide) (show 1 < 8 by decide) h7 hB1.2.1
  rw [cmp_0 mU mU] at e3
  obtain ⟨n4, K4, I4, R4, e4, s4⟩ := c_apply hF s3 (show 6 < 8 by decide) (show 7 < 8 by decide) (show 0 < 8 by decide) (show 5 < 8 by decide) h6 h7 hB1.1 pT pU
  have hB2 := l_B_up hB1 (show 3 ≤ 5 by decide) (some U)
  have h5 : gUp (gUp (gUp S 6 (some T)) 7 (some U)) 5 (some U) 5 = some U := gUp_at _ _ _
  have e5 := c_size hF s4 (show 1 < 8 by decide) hB2.2.1 (show 0 < 5 by decide)
  rw [zsz_0] at e5
  obtain ⟨I6, R6, e6, s6⟩ := c_compare hF s4 (show 5 < 8 by decide) (show 1 < 8 by decide) h5 hB2.2.1
  rw [cmp_0 mU mU] at e6
  obtain ⟨I7, R7, e7, s7⟩ := c_covers hF s6 (show 0 < 8 by decide) (show 2 < 8 by decide) hB2.1 hB2.2.2
  have e71 : f_L_rules F n K I R (some 0) = f_L_rules_71 F n4 K4 I6 R6 (some 0) 1 := by
    unfold f_L_rules
    rw [zdr_s (cS_k h), zbd_s, show f_X6_learn F n K I R 0 (0 : Int32) (1 : Int32) (0 : Int32) (1 : Int32) (6 : Int32) (7 : Int32) = _ from e1, zbd5_s, if_pos rfl, if_pos (cS_k s1), show f_X6_compare F K1 I1 R1 0 (6 : Int32) (0 : Int32) = _ from e2, zbd3_s, if_pos rfl, show f_X6_compare F K1 I2 R2 0 (7 : Int32) (1 : Int32) = _ from e3, zbd3_s, if_pos rfl, show f_X6_apply F n1 K1 I3 R3 0 (6 : Int32) (7 : Int32) (0 : Int32) (5 : Int32) = _ from e4, zbd5_s, if_pos (cS_k s4), show f_X6_size F K4 I4 R4 0 (1 : Int32) (0 : Int32) = _ from e5, zbd_s, if_pos rfl, show f_X6_compare F K4 I4 R4 0 (5 : Int32) (1 : Int32) = _ from e6, zbd3_s, if_pos rfl]
  rw [e71]
  unfold f_L_rules_71
  rw [zdr_s (cS_k s6), zbd_s, show f_X6_covers F K4 I6 R6 0 (0 : Int32) (2 : Int32) = _ from e7, zbd3_s]
  rcases mi_01 T V with ⟨m1, m2⟩ | ⟨m1, m2⟩
  · obtain ⟨n8, K8, I8, R8, e8, s8⟩ := c_apply_no hF s7 (show 0 < 8 by decide) (show 1 < 8 by decide) (show 2 < 8 by decide) (show 5 < 8 by decide) hB2.1 hB2.2.1 hB2.2.2 m2
    refine ⟨n8, K8, I8, R8, _, ?_, s8, hB2⟩
    rw [m1, if_pos rfl, if_neg (by decide), show f_X6_apply F n4 K4 I7 R7 0 (0 : Int32) (1 : Int32) (2 : Int32) (5 : Int32) = _ from e8, zbd5_s, if_pos rfl]
  · refine ⟨n4, K4, I7, R7, _, ?_, s7, hB2⟩
    rw [m1, if_neg (by decide), if_pos (Or.inr rfl)]
theorem l_undoes (hF : 5000 ≤ F) (h : cS K I R n S c []) (hB : l_B S T U V) : ∃ I' R', f_L_undoes F K I R (some 0) = some (1, I', R') ∧ cS K I' R' n S c [] := by
  have e1 := c_size hF h (show 0 < 8 by decide) hB.1 (show 0 < 5 by decide)
  rw [zsz_0] at e1
  have e2 := c_told hF h (show 2 < 4 by decide)
  obtain ⟨I1, R1, e3, s1⟩ := c_empty hF h (Nat.zero_le _) (show 0 < 8 by decide) hB.1
  obtain ⟨I2, R2, e4, s2⟩ := c_covers_e hF s1 (show 0 < 8 by decide) (show 1 < 8 by decide) (Or.inl (gUp_at _ _ _))
  obtain ⟨I3, R3, e5, s3⟩ := c_set hF s2 (show 1 ≤ 4 by decide) (show 2 < 4 by decide) (v := 7) (by decide)
  obtain ⟨g1, I4, R4, g16, e6, s4⟩ := c_undo hF s3
  have e7 := c_told hF s4 (show 2 < 4 by decide)
  obtain ⟨g2, I5, R5, g26, e8, s5⟩ := c_undo hF s4
  have e9 := c_size hF s5 (show 0 < 8 by decide) hB.1 (show 0 < 5 by decide)
  rw [zsz_0] at e9
  refine ⟨I5, R5, ?_, s5⟩
  unfold f_L_undoes
  rw [zdr_s (cS_k h), zbd_s, show f_X6_size F K I R 0 (0 : Int32) (0 : Int32) = _ from e1, zbd_s, show f_X6_told F K I R 0 (2 : Int32) = _ from e2, zbd_s, show f_X6_empty F K I R 0 (0 : Int32) = _ from e3, zbd3_s, if_pos rfl, show f_X6_covers F K I1 R1 0 (0 : Int32) (1 : Int32) = _ from e4, zbd3_s, if_pos rfl, show f_X6_set F K I2 R2 0 (2 : Int32) (7 : Int32) = _ from e5, zbd3_s, if_pos rfl, e6, zbd3_s, if_neg (nI_pos (by omega)), show f_X6_told F K I4 R4 0 (2 : Int32) = _ from e7, zbd_s, if_pos rfl, e8, zbd3_s, if_neg (nI_pos (by omega)), show f_X6_size F K I5 R5 0 (0 : Int32) (0 : Int32) = _ from e9, zbd_s, if_pos rfl]
end LP
