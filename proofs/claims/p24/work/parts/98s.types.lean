/-! TYPES: a row of a term becomes text -/
def cT (K : zK) (I : zI) (R : zR) (n : Nat) (S : gSt) (c : Nat → Int32) (tx : List Nat) : Prop := ∃ (J : zI) (RM : zR), zSim 0 K I R n zKm J RM ∧ gBl (J 90) 0 S c ∧ gHi J [] ∧ J 89 3 = nI tx.length ∧ ∀ (i x : Nat), tx[i]? = some x → J 91 i = nI x
/-- the text of a forest -/
def prF : aFo → List Nat
  | .leaf _ => []
  | .branch w k r => (97 + w) :: ((if qLn k = 0 then [] else 40 :: (prF k ++ [41])) ++ (if qLn r = 0 then [] else 44 :: prF r))
theorem prF_len : ∀ G : aFo, (prF G).length ≤ 4 * qSz G := by
  intro G
  induction G with
  | leaf _ => exact Nat.le_refl _
  | branch w k r ihk ihr =>
    rw [prF, qSz, List.length_cons, List.length_append]
    have h1 : (if qLn k = 0 then [] else 40 :: (prF k ++ [41])).length ≤ 4 * qSz k + 2 := by
      by_cases c : qLn k = 0
      · rw [if_pos c, List.length_nil]; omega
      · rw [if_neg c, List.length_cons, List.length_append, List.length_singleton]; omega
    have h2 : (if qLn r = 0 then [] else 44 :: prF r).length ≤ 4 * qSz r + 1 := by
      by_cases c : qLn r = 0
      · rw [if_pos c, List.length_nil]; omega
      · rw [if_neg c, List.length_cons]; omega
    omega
theorem qHt_1 : ∀ {G : aFo}, qLn G ≠ 0 → 1 ≤ qHt G
  | .leaf _, h => absurd rfl h
  | .branch _ _ _, _ => by rw [qHt]; omega
theorem qLn_0 : ∀ {G : aFo}, qLn G = 0 → qSz G = 0
  | .leaf _, _ => rfl
  | .branch _ _ _, h => by rw [qLn] at h; omega
section ZPS
variable {F n a al : Nat} {K : zK} {I I' : zI} {R : zR} {S : gSt} {c : Nat → Int32} {tx : List Nat} {N : Nat}
theorem zRg_row {o : Nat} {x : Option Nat} {P : Nat → Int32} (h : zRg K I R n x P o) (hK : K al = (1, 8)) (hI : ∀ b, b ≠ al → I' b = I b) : zRg K I' R n x P o := by
  cases x with
  | none => exact h
  | some t =>
    obtain ⟨h1, h2, T, h3, h4, h5⟩ := h
    refine ⟨h1, h2, T, h3, zTc_keep h4 (fun b g1 g2 => ⟨rfl, hI b (fun e => ?_), rfl⟩), h5⟩
    subst e
    obtain ⟨k0, k1, k2, k3, -⟩ := h4
    have : b = t ∨ b = t + 1 ∨ b = t + 2 ∨ b = t + 3 := by omega
    rcases this with rfl | rfl | rfl | rfl
    · rw [hK] at k0; exact absurd k0 (by decide)
    · rw [hK] at k1; exact absurd k1 (by decide)
    · rw [hK] at k2; exact absurd k2 (by decide)
    · rw [hK] at k3; exact absurd k3 (by decide)
theorem zSt_row {s o : Nat} {P : Nat → Int32} (h : zSt K I R n s P o) (hK : K al = (1, 8)) (hs : s + 2 < al) (hI : ∀ b, b ≠ al → I' b = I b) : zSt K I' R n s P o := by
  obtain ⟨h1, h2, h3⟩ := h
  exact ⟨fun r hr => zRg_row (h1 r hr) hK hI, fun k hk => by rw [hI _ (by omega)]; exact h2 k hk, h3⟩
theorem zSim_row {J : zI} {RM : zR} (h : zSim 0 K I R n zKm J RM) (hK : K al = (1, 8)) (hal : 92 ≤ al) (hI : ∀ b, b ≠ al → I' b = I b) : zSim 0 K I' R n zKm J RM := by
  obtain ⟨c0, ⟨b, b1, b2, b3, b4⟩, c2, c3, g, g1, g2, g3, g4, g5⟩ := h
  refine ⟨c0, ⟨b, b1, by rw [hI 0 (by omega)]; exact b2, b3, fun i hi => by rw [hI 1 (by omega)]; exact b4 i hi⟩, by rw [hI 0 (by omega)]; exact c2, zSt_row c3 hK (by omega) hI, g, g1, by rw [hI 0 (by omega)]; exact g2, g3, fun j hj => ?_, g5⟩
  obtain ⟨s, s1, s2, s3⟩ := g4 j hj
  exact ⟨s, s1, s2, fun hlt => zSt_row (s3 hlt) hK (by unfold zHa at s2; omega) hI⟩
theorem zSim_alloc {J : zI} {RM : zR} (h : zSim 0 K I R n zKm J RM) : zSim 0 (zset K n (1, 8)) (zclr I n 0) R (n + 1) zKm J RM := by
  have h0 := h
  obtain ⟨⟨c0, c1, c2, c3, c4⟩, ⟨b, b1, b2, b3, b4⟩, hf, -⟩ := h
  have hI : ∀ b, b ≠ n → zclr I n (0 : Int32) b = I b := fun b hb => by unfold zclr; funext j; rw [if_neg hb]
  refine zSim_keep h0 (by omega) (fun b hb => ?_) (fun b hb => ?_) (fun b b1 b2 => ⟨hI b (by omega), rfl⟩) (fun _ _ _ => rfl) (fun _ _ _ _ => rfl) (fun s hs k hk => ?_) (fun _ _ => rfl) ?_ (fun _ _ => rfl) rfl ⟨b, b1, ?_, b3, fun i hi => ?_⟩ ?_
  · unfold zset; rw [if_neg (by omega)]
  · unfold zset; rw [if_neg (by omega)]; exact c3 b (by omega)
  · rw [hI _ (by unfold zHs zHa at hs; omega)]
  · rw [hI 0 (by omega)]
  · rw [hI 0 (by omega)]; exact b2
  · rw [hI 1 (by omega)]; exact b4 i hi
  · rw [hI 0 (by omega)]; exact hf
theorem cT_row (h : cT K I R n S c tx) (hK : K al = (1, 8)) (hal : 92 ≤ al) (hI : ∀ b, b ≠ al → I' b = I b) : cT K I' R n S c tx := by
  obtain ⟨J, RM, h1, h2⟩ := h
  exact ⟨J, RM, zSim_row h1 hK hal hI, h2⟩
theorem cT_alloc (h : cT K I R n S c tx) : cT (zset K n (1, 8)) (zclr I n 0) R (n + 1) S c tx := by
  obtain ⟨J, RM, h1, h2⟩ := h
  exact ⟨J, RM, zSim_alloc h1, h2⟩
theorem cT_k (h : cT K I R n S c tx) : (K 0).1 = 16 := by
  obtain ⟨J, RM, h1, -⟩ := h
  rw [(zSim_ctx h1).2.2.2.1 0 (by decide)]
  rfl
theorem c_clear (h : cS K I R n S c []) : ∃ v I1, ¬ v < 0 ∧ f_X6_clear F K I R 0 = some (v, I1) ∧ cT K I1 R n S c [] ∧ ∀ b, 2 ≤ b → I1 b = I b := by
  obtain ⟨J, RM, h1, h2, h3⟩ := h
  have h0 := h1
  obtain ⟨⟨hn, hK, hK2, hK3, hR, hKM, hRM⟩, ⟨b, hb, hb1, hb2, htx⟩, hfk, hst, hh⟩ := h0
  obtain ⟨r, I1, J1, e1, e2, e3⟩ := step_clear F 0 K I R n zKm J RM h1
  have f1 : f_X6_clear F K I R 0 = some (nI b, zup I 0 1 0) := by
    unfold f_X6_clear
    rw [zbd_s, zbd_s, hb1]
  have f2 : f_X7_clear F zKm J RM 89 = some (nI b, zup J 89 3 0) := by
    unfold f_X7_clear
    rw [zbd_s, zbd_s, hb2]
  have q1 := pSome e1 f1
  have q2 := pSome e2 f2
  simp only [Prod.mk.injEq] at q1 q2
  obtain ⟨rfl, rfl⟩ := q1
  obtain ⟨-, rfl⟩ := q2
  refine ⟨nI b, _, nI_pos (by omega), f1, ⟨_, RM, e3, ?_, ?_, zup_self _ _ _ _, fun i x hx => by cases hx⟩, fun b hb => zup_ne _ _ _ (by omega)⟩
  · rw [zup_ne _ _ _ (by decide)]; exact h2
  · exact gHi_keep h3 (zup_self_ne _ _ _ (by decide)) (fun q _ _ => zup_nb _ _ _ (by decide) _)
theorem c_type (h : cT K I R n S c tx) (hl : tx.length < 80) {x : Nat} (hx : 33 ≤ x) (hx2 : x ≤ 126) : ∃ I1, f_X6_type F K I R 0 (nI x) = some (nI (tx.length + 1), I1) ∧ cT K I1 R n S c (tx ++ [x]) ∧ ∀ b, 2 ≤ b → I1 b = I b := by
  obtain ⟨J, RM, h1, h2, h3, h4, h5⟩ := h
  have h0 := h1
  obtain ⟨⟨hn, hK, hK2, hK3, hR, hKM, hRM⟩, ⟨b, hb, hb1, hb2, htx⟩, hfk, hst, hh⟩ := h0
  have hbe : b = tx.length := nI_inj (by omega) (by omega) (hb2.symm.trans h4)
  subst hbe
  have hR00 : R 0 0 = some 1 := hR 0 0 (by unfold zFin; omega)
  have hR2 : RM 89 2 = some 91 := hRM 89 2 (by decide) (by decide) (by decide)
  have hK1 : K 1 = (1, 80) := hK 1 (by decide)
  have hKM92 : zKm 91 = (1, 80) := rfl
  have n1 : ¬ nI x < (33 : Int32) := nI_nlt (b := 33) (a := x) hx (by omega)
  have n2 : nI x ≤ (126 : Int32) := nI_le (b := 126) hx2 (by omega)
  obtain ⟨r, I1, J1, e1, e2, e3⟩ := step_type F 0 K I R n zKm J RM (nI x) h1
  have f1 : f_X6_type F K I R 0 (nI x) = some (nI (tx.length + 1), zup (zup I 1 tx.length (nI x)) 0 1 (nI (tx.length + 1))) := by
    unfold f_X6_type
    have e1 : zln K 1 - 1 = nI 79 := by simp only [zln, hK1]; rfl
    rw [if_neg n1, if_pos n2, hR00, zbd_s, zdr_s (by rw [hK1]), zbd_s, hb1, e1, zo_0 ⟨nI_pos' (by omega), nI_le (by omega) (by omega)⟩, zbd_s, if_pos rfl]
    rw [zbd_s, zdr_s (by rw [hK1]), zbd_s, zwr_s (by rw [hK1]; exact hl) (by rw [hK1]; decide), zbd_s, zbd_s, zup_self]
    rw [show zup I 1 tx.length (nI x) 0 1 = I 0 1 from by rw [zup_ne _ _ _ (by decide)], hb1, nI_1]
  have f2 : f_X7_type F zKm J RM 89 (nI x) = some (nI (tx.length + 1), zup (zup J 91 tx.length (nI x)) 89 3 (nI (tx.length + 1))) := by
    unfold f_X7_type
    rw [zi_1 ⟨Int32.not_lt.mp n1, n2⟩, zbd_s, if_neg (by decide), if_neg (by rw [hb2]; intro h; have := nI_inj (a := tx.length) (b := 80) (by omega) (by omega) h; omega)]
    rw [hR2, zbd_s, zdr_s (by rw [hKM92]), zbd_s, hb2, zwr_s (by rw [hKM92]; exact hl) (by rw [hKM92]; decide), zbd_s, zbd_s, zup_self]
    rw [show zup J 91 tx.length (nI x) 89 3 = J 89 3 from by rw [zup_ne _ _ _ (by decide)], hb2, nI_1]
  have q1 := pSome e1 f1
  have q2 := pSome e2 f2
  simp only [Prod.mk.injEq] at q1 q2
  obtain ⟨rfl, rfl⟩ := q1
  obtain ⟨-, rfl⟩ := q2
  refine ⟨_, f1, ⟨_, RM, e3, ?_, ?_, ?_, fun i y hy => ?_⟩, fun b hb => by rw [zup_ne _ _ _ (by omega), zup_ne _ _ _ (by omega)]⟩
  · rw [zup_ne _ _ _ (by decide), zup_ne _ _ _ (by decide)]; exact h2
  · refine gHi_keep h3 ?_ (fun q _ _ => by rw [zup_nb _ _ _ (by decide), zup_nb _ _ _ (by decide)])
    rw [zup_self_ne _ _ _ (by decide), zup_nb _ _ _ (by decide)]
  · rw [zup_self, List.length_append]; rfl
  · rw [zup_nb _ _ _ (by decide)]
    by_cases c : i < tx.length
    · rw [List.getElem?_append_left c] at hy
      rw [zup_self_ne _ _ _ (by omega)]
      exact h5 i y hy
    · rw [List.getElem?_append_right (by omega)] at hy
      have c2 : i - tx.length = 0 := by
        cases e : i - tx.length with
        | zero => rfl
        | succ z => rw [e] at hy; cases hy
      rw [c2] at hy
      cases hy
      rw [show i = tx.length by omega, zup_self]
/-- part of a row -/
def dRo (P : Nat → Int32) (i : Nat) (G : aFo) : Prop := ∀ (j : Nat) (v : Nat × Nat), (qLi G)[j]? = some v → P (2 * (i + j)) = nI v.1 ∧ P (2 * (i + j) + 1) = nI v.2
theorem dRo_b {P : Nat → Int32} {i w : Nat} {k r : aFo} (h : dRo P i (.branch w k r)) : (P (2 * i) = nI w ∧ P (2 * i + 1) = nI (qLn k)) ∧ dRo P (i + 1) k ∧ dRo P (i + 1 + qSz k) r := by
  refine ⟨h 0 (w, qLn k) rfl, fun j v hv => ?_, fun j v hv => ?_⟩
  · have hj : j < (qLi k).length := (List.getElem?_eq_some_iff.mp hv).1
    have := h (j + 1) v (by rw [qLi, List.getElem?_cons_succ, List.getElem?_append_left hj]; exact hv)
    rw [show i + 1 + j = i + (j + 1) by omega]
    exact this
  · have := h (j + qSz k + 1) v (by rw [qLi, List.getElem?_cons_succ, List.getElem?_append_right (by rw [qLi_len]; omega), qLi_len, Nat.add_sub_cancel]; exact hv)
    rw [show i + 1 + qSz k + j = i + (j + qSz k + 1) by omega]
    exact this
/-- what does not change -/
abbrev tCx (K : zK) (a al N : Nat) : Prop := K a = (1, 63) ∧ K al = (1, 8) ∧ 89 ≤ a ∧ a < 92 ∧ 92 ≤ al ∧ N ≤ 14
theorem t_13 (hC : tCx K a al N) (h : cT K I R n S c tx) {w q i d : Nat} (hw : w < 3) (hN : I a 62 = nI N) (hi : i < N) (h1 : I a (2 * i) = nI w) (h2 : I a (2 * i + 1) = nI q) (hl : tx.length < 80) (kself : Nat → zK → zI → zR → Option Nat → Option Nat → Option Nat → Int32 → Int32 → Int32 → Option (Int32 × Nat × zK × zI × zR)) : ∃ I1, g_L_types_13 F kself n K I R (some 0) (some a) (some al) (nI d) 1 (nI i) = f_L_types_48 F kself n K I1 R (some 0) (some a) (some al) (nI d) (nI i) 1 ∧ cT K I1 R n S c (tx ++ [97 + w]) ∧ ∀ b, 2 ≤ b → I1 b = I b := by
  obtain ⟨k1, k2, k3, k4, k5, k6⟩ := hC
  obtain ⟨I1, e1, e2, e3⟩ := c_type (F := F) h hl (x := 97 + w) (by omega) (by omega)
  refine ⟨I1, ?_, e2, e3⟩
  unfold g_L_types_13
  rw [zdr_s (by rw [k1]), zbd_s, show (62 : Int32) = nI 62 from rfl, zrd_s (by rw [k1]; decide) (by rw [k1]; decide), zbd_s, hN, if_neg (nI_ge hi (by omega)), if_neg (by decide), show (2 : Int32) * nI i = nI (2 * i) from nI_mul 2 i, zrd_s (by rw [k1]; show _ < 63; omega) (by rw [k1]; decide), zbd_s, h1, zdr_s (cT_k h), zbd_s, show (97 : Int32) + nI w = nI (97 + w) from nI_add 97 w, e1, zbd2_s, if_neg (by rw [show (0 : Int32) = nI 0 from rfl]; exact nI_ge (by omega) (by omega))]
theorem t_leaf (hC : tCx K a al N) (h : cT K I R n S c tx) {i d x : Nat} (hi : i < N) (hd : d < 8) (h2 : I a (2 * i + 1) = nI 0) (h3 : d = 0 ∨ I al d = nI (x + 1)) (kself : Nat → zK → zI → zR → Option Nat → Option Nat → Option Nat → Int32 → Int32 → Int32 → Option (Int32 × Nat × zK × zI × zR)) : ∃ I1, f_L_types_48 F kself n K I R (some 0) (some a) (some al) (nI d) (nI i) 1 = f_L_types_106 F kself F n K I1 R (some 0) (some a) (some al) (nI d) 1 (nI i) ∧ cT K I1 R n S c tx ∧ (d = 0 ∨ I1 al d = nI x) ∧ (∀ j, j ≠ d → I1 al j = I al j) ∧ ∀ b, b ≠ al → I1 b = I b := by
  obtain ⟨k1, k2, k3, k4, k5, k6⟩ := hC
  refine ⟨zup I al d (I al d - 1), ?_, cT_row h k2 k5 (fun b hb => zup_ne _ _ _ hb), ?_, fun j hj => zup_self_ne _ _ _ hj, fun b hb => zup_ne _ _ _ hb⟩
  · unfold f_L_types_48
    rw [zdr_s (by rw [k1]), zbd_s, show (2 : Int32) * nI i = nI (2 * i) from nI_mul 2 i, nI_1, zrd_s (by rw [k1]; show _ < 63; omega) (by rw [k1]; decide), zbd_s, h2, if_pos (by decide), zdr_s (by rw [k2]), zbd_s, zrd_s (by rw [k2]; exact hd) (by rw [k2]; decide), zbd_s, zwr_s (by rw [k2]; exact hd) (by rw [k2]; decide), zbd_s]
  · rcases h3 with h3 | h3
    · exact Or.inl h3
    · refine Or.inr ?_
      rw [zup_self, h3]
      exact nI_sub (b := 1) (by omega)
theorem t_open (hC : tCx K a al N) (h : cT K I R n S c tx) {i d q : Nat} (hi : i < N) (hd : d + 1 < 8) (hq : q < 9) (h2 : I a (2 * i + 1) = nI (q + 1)) (hl : tx.length < 80) (kself : Nat → zK → zI → zR → Option Nat → Option Nat → Option Nat → Int32 → Int32 → Int32 → Option (Int32 × Nat × zK × zI × zR)) : ∃ I1, f_L_types_48 F kself n K I R (some 0) (some a) (some al) (nI d) (nI i) 1 = kself n K I1 R (some 0) (some a) (some al) (nI (d + 1)) 1 (nI (i + 1)) ∧ cT K I1 R n S c (tx ++ [40]) ∧ I1 al (d + 1) = nI (q + 1) ∧ (∀ j, j ≠ d + 1 → I1 al j = I al j) ∧ ∀ b, 2 ≤ b → b ≠ al → I1 b = I b := by
  obtain ⟨k1, k2, k3, k4, k5, k6⟩ := hC
  obtain ⟨I1, e1, e2, e3⟩ := c_type (F := F) h hl (x := 40) (by omega) (by omega)
  refine ⟨zup I1 al (d + 1) (nI (q + 1)), ?_, cT_row e2 k2 k5 (fun b hb => zup_ne _ _ _ hb), zup_self _ _ _ _, fun j hj => by rw [zup_self_ne _ _ _ hj, e3 al (by omega)], fun b b1 b2 => by rw [zup_ne _ _ _ b2, e3 b b1]⟩
  unfold f_L_types_48
  rw [zdr_s (by rw [k1]), zbd_s, show (2 : Int32) * nI i = nI (2 * i) from nI_mul 2 i, nI_1, zrd_s (by rw [k1]; show _ < 63; omega) (by rw [k1]; decide), zbd_s, h2, if_neg (by rw [show (0 : Int32) = nI 0 from rfl]; exact nI_ge (by omega) (by omega)), if_neg (by decide), zdr_s (cT_k h), zbd_s, show (40 : Int32) = nI 40 from rfl, e1, zbd2_s, if_neg (by rw [show (0 : Int32) = nI 0 from rfl]; exact nI_ge (by omega) (by omega))]
  unfold f_L_types_80 f_L_types_175
  rw [zdr_s (by rw [k1]), zbd_s, show (2 : Int32) * nI i = nI (2 * i) from nI_mul 2 i, nI_1, nI_1, nI_1, zrd_s (by rw [k1]; show _ < 63; omega) (by rw [k1]; decide), zbd_s, e3 a (by omega), h2, zdr_s (by rw [k2]), zbd_s, zwr_s (by rw [k2]; exact hd) (by rw [k2]; decide), zbd_s]
theorem t_close (hC : tCx K a al N) (h : cT K I R n S c tx) {i d x t : Nat} (hd : d + 1 < 8) (h2 : I al (d + 1) = 0) (h3 : d = 0 ∨ I al d = nI (x + 1)) (hl : tx.length < 80) (kself : Nat → zK → zI → zR → Option Nat → Option Nat → Option Nat → Int32 → Int32 → Int32 → Option (Int32 × Nat × zK × zI × zR)) : ∃ I1, f_L_types_106 F kself (t + 1) n K I R (some 0) (some a) (some al) (nI (d + 1)) 1 (nI i) = f_L_types_106 F kself t n K I1 R (some 0) (some a) (some al) (nI d) 1 (nI i) ∧ cT K I1 R n S c (tx ++ [41]) ∧ (d = 0 ∨ I1 al d = nI x) ∧ (∀ j, j ≠ d → I1 al j = I al j) ∧ ∀ b, 2 ≤ b → b ≠ al → I1 b = I b := by
  obtain ⟨k1, k2, k3, k4, k5, k6⟩ := hC
  obtain ⟨I1, e1, e2, e3⟩ := c_type (F := F) h hl (x := 41) (by omega) (by omega)
  have e4 := e3 al (by omega)
  refine ⟨zup I1 al d (I1 al d - 1), ?_, cT_row e2 k2 k5 (fun b hb => zup_ne _ _ _ hb), ?_, fun j hj => by rw [zup_self_ne _ _ _ hj, e4], fun b b1 b2 => by rw [zup_ne _ _ _ b2, e3 b b1]⟩
  · show g_L_types_106 F kself (f_L_types_106 F kself t) n K I R (some 0) (some a) (some al) (nI (d + 1)) 1 (nI i) = _
    unfold g_L_types_106
    rw [if_neg (by rw [show (0 : Int32) = nI 0 from rfl]; exact nI_ge (by omega) (by omega)), zdr_s (by rw [k2]), zbd_s, zrd_s (by rw [k2]; exact hd) (by rw [k2]; decide), zbd_s, h2, if_pos rfl, if_neg (by decide), zdr_s (cT_k h), zbd_s, show (41 : Int32) = nI 41 from rfl, e1, zbd2_s, if_neg (by rw [show (0 : Int32) = nI 0 from rfl]; exact nI_ge (by omega) (by omega))]
    unfold f_L_types_135
    rw [zdr_s (by rw [k2]), zbd_s, nI_m1, zrd_s (by rw [k2]; show _ < 8; omega) (by rw [k2]; decide), zbd_s, zwr_s (by rw [k2]; show _ < 8; omega) (by rw [k2]; decide), zbd_s]
  · rcases h3 with h3 | h3
    · exact Or.inl h3
    · refine Or.inr ?_
      rw [zup_self, e4, h3]
      exact nI_sub (b := 1) (by omega)
theorem t_comma (hC : tCx K a al N) (h : cT K I R n S c tx) {i d x t : Nat} (hd : d + 1 < 8) (hx : x < 9) (h2 : I al (d + 1) = nI (x + 1)) (hl : tx.length < 80) (kself : Nat → zK → zI → zR → Option Nat → Option Nat → Option Nat → Int32 → Int32 → Int32 → Option (Int32 × Nat × zK × zI × zR)) : ∃ I1, f_L_types_106 F kself (t + 1) n K I R (some 0) (some a) (some al) (nI (d + 1)) 1 (nI i) = kself n K I1 R (some 0) (some a) (some al) (nI (d + 1)) 1 (nI (i + 1)) ∧ cT K I1 R n S c (tx ++ [44]) ∧ ∀ b, 2 ≤ b → I1 b = I b := by
  obtain ⟨k1, k2, k3, k4, k5, k6⟩ := hC
  obtain ⟨I1, e1, e2, e3⟩ := c_type (F := F) h hl (x := 44) (by omega) (by omega)
  refine ⟨I1, ?_, e2, e3⟩
  show g_L_types_106 F kself (f_L_types_106 F kself t) n K I R (some 0) (some a) (some al) (nI (d + 1)) 1 (nI i) = _
  unfold g_L_types_106 f_L_types_150 f_L_types_168 f_L_types_173 f_L_types_175
  rw [if_neg (by rw [show (0 : Int32) = nI 0 from rfl]; exact nI_ge (by omega) (by omega)), zdr_s (by rw [k2]), zbd_s, zrd_s (by rw [k2]; exact hd) (by rw [k2]; decide), zbd_s, h2, if_neg (fun e => by have := (nI_z (by omega)).mp e; omega), if_neg (by decide), if_neg (fun e => by have := (nI_z (by omega)).mp e; omega), zdr_s (cT_k h), zbd_s, show (44 : Int32) = nI 44 from rfl, e1, zbd2_s, if_neg (by rw [show (0 : Int32) = nI 0 from rfl]; exact nI_ge (by omega) (by omega)), nI_1]
/-- A FOREST below the root -/
theorem t_forest (hF : 5000 ≤ F) (hC : tCx K a al N) : ∀ (G : aFo) (d i f : Nat) (I : zI) (tx : List Nat), qLn G ≠ 0 → d + qHt G < 8 → i + qSz G ≤ N → qHt G ≤ 8 → dN G → qLn G < 9 → dRo (I a) i G → I a 62 = nI N → I al (d + 1) = nI (qLn G) → tx.length + 4 * qSz G ≤ 79 → cT K I R n S c tx → ∃ (t : Nat) (I' : zI), F ≤ t + qHt G ∧ f_L_types_13 F (f + qSz G) n K I R (some 0) (some a) (some al) (nI (d + 1)) 1 (nI i) = f_L_types_106 F (f_L_types_13 F f) t n K I' R (some 0) (some a) (some al) (nI (d + 1)) 1 (nI (i + qSz G - 1)) ∧ cT K I' R n S c (tx ++ prF G) ∧ I' al (d + 1) = 0 ∧ (∀ j, j ≤ d → I' al j = I al j) ∧ ∀ b, 2 ≤ b → b ≠ al → I' b = I b := by
  intro G
  have hC0 := hC
  obtain ⟨k1, k2, k3, k4, k5, k6⟩ := hC
  induction G with
  | leaf _ => intro d i f I tx h; exact absurd rfl h
  | branch w k r ihk ihr =>
    intro d i f I tx h0 hd hi h8 hN hq hR h62 hst hl h
    obtain ⟨⟨hw, hk3⟩, nk, nr⟩ := hN
    rw [qSz] at hi hl
    rw [qHt] at hd h8
    rw [qLn] at hst hq
    obtain ⟨⟨r1, r2⟩, rk, rr⟩ := dRo_b hR
    obtain ⟨I1, e1, t1, f1⟩ := t_13 (F := F) (d := d + 1) hC0 h hw h62 (by omega) r1 r2 (by omega) (f_L_types_13 F (f + qSz k + qSz r))
    have a1 : I1 a = I a := f1 a (by omega)
    have al1 : I1 al = I al := f1 al (by omega)
    -- behind the first node with its arguments: what is left of the row
    have tail : ∀ (t : Nat) (I2 : zI) (tx2 : List Nat), F ≤ t + 1 + qHt k → cT K I2 R n S c tx2 → tx2.length + 4 * qSz r ≤ 78 → I2 al (d + 1) = nI (qLn r) → (∀ j, j ≤ d → I2 al j = I al j) → (∀ b, 2 ≤ b → b ≠ al → I2 b = I b) → ∃ (t' : Nat) (I' : zI), F ≤ t' + qHt (Lean.RArray.branch w k r) ∧ f_L_types_106 F (f_L_types_13 F (f + qSz r)) t n K I2 R (some 0) (some a) (some al) (nI (d + 1)) 1 (nI (i + qSz k)) = f_L_types_106 F (f_L_types_13 F f) t' n K I' R (some 0) (some a) (some al) (nI (d + 1)) 1 (nI (i + qSz (Lean.RArray.branch w k r) - 1)) ∧ cT K I' R n S c (tx2 ++ (if qLn r = 0 then [] else 44 :: prF r)) ∧ I' al (d + 1) = 0 ∧ (∀ j, j ≤ d → I' al j = I al j) ∧ ∀ b, 2 ≤ b → b ≠ al → I' b = I b := by
      intro t I2 tx2 ht c2 l2 s2 u2 v2
      rw [qHt, qSz]
      by_cases c0 : qLn r = 0
      · rw [if_pos c0, List.append_nil, qLn_0 c0]
        refine ⟨t, I2, by omega, by rw [show i + (1 + qSz k + 0) - 1 = i + qSz k by omega]; rfl, c2, by rw [s2, c0]; rfl, u2, v2⟩
      · obtain ⟨t, rfl⟩ : ∃ y, t = y + 1 := ⟨t - 1, by omega⟩
        obtain ⟨x, hx⟩ : ∃ x, qLn r = x + 1 := ⟨qLn r - 1, by omega⟩
        obtain ⟨I3, e3, c3, f3⟩ := t_comma (F := F) (t := t) (i := i + qSz k) (d := d) (x := x) hC0 c2 (by omega) (by omega) (by rw [s2, hx]) (by omega) (f_L_types_13 F (f + qSz r))
        have a3 : I3 a = I a := by rw [f3 a (by omega), v2 a (by omega) (by omega)]
        have al3 : I3 al = I2 al := f3 al (by omega)
        obtain ⟨t', I', b1, b2, b3, b4, b5, b6⟩ := ihr d (i + 1 + qSz k) f I3 (tx2 ++ [44]) c0 (by omega) (by omega) (by omega) nr (by omega) (by rw [a3]; exact rr) (by rw [a3]; exact h62) (by rw [al3]; exact s2) (by rw [List.length_append, List.length_singleton]; omega) c3
        refine ⟨t', I', by omega, ?_, ?_, b4, fun j hj => by rw [b5 j hj, al3, u2 j hj], fun b z1 z2 => by rw [b6 b z1 z2, f3 b z1, v2 b z1 z2]⟩
        · rw [e3, show i + qSz k + 1 = i + 1 + qSz k by omega, b2, show i + 1 + qSz k + qSz r - 1 = i + (1 + qSz k + qSz r) - 1 by omega]
        · rw [if_neg c0, show tx2 ++ 44 :: prF r = tx2 ++ [44] ++ prF r from by rw [List.append_assoc]; rfl]
          exact b3
    show ∃ (t : Nat) (I' : zI), _ ∧ f_L_types_13 F (f + (1 + qSz k + qSz r)) n K I R (some 0) (some a) (some al) (nI (d + 1)) 1 (nI i) = _ ∧ _
    rw [show f + (1 + qSz k + qSz r) = f + qSz k + qSz r + 1 by omega, show f_L_types_13 F (f + qSz k + qSz r + 1) n K I R (some 0) (some a) (some al) (nI (d + 1)) 1 (nI i) = g_L_types_13 F (f_L_types_13 F (f + qSz k + qSz r)) n K I R (some 0) (some a) (some al) (nI (d + 1)) 1 (nI i) from rfl, e1]
    rw [prF]
    by_cases c0 : qLn k = 0
    · have z0 := qLn_0 c0
      obtain ⟨I2, e2, t2, s2, u2, v2⟩ := t_leaf (F := F) (x := qLn r) hC0 t1 (i := i) (d := d + 1) (by omega) (by omega) (by rw [a1, r2, c0]) (Or.inr (by rw [al1, hst, Nat.add_comm])) (f_L_types_13 F (f + qSz k + qSz r))
      obtain ⟨t', I', b1, b2, b3, b4, b5, b6⟩ := tail F I2 (tx ++ [97 + w]) (by omega) t2 (by rw [List.length_append, List.length_singleton]; omega) (s2.resolve_left (by omega)) (fun j hj => by rw [u2 j (by omega), al1]) (fun b z1 z2 => by rw [v2 b z2, f1 b z1])
      refine ⟨t', I', b1, ?_, ?_, b4, b5, b6⟩
      · rw [e2, ← b2, z0]; rfl
      · rw [if_pos c0, List.nil_append, show tx ++ (97 + w) :: (if qLn r = 0 then [] else 44 :: prF r) = tx ++ [97 + w] ++ (if qLn r = 0 then [] else 44 :: prF r) from by rw [List.append_assoc]; rfl]
        exact b3
    · obtain ⟨x, hx⟩ : ∃ x, qLn k = x + 1 := ⟨qLn k - 1, by omega⟩
      have pl := prF_len k
      have ph := qHt_1 c0
      obtain ⟨I2, e2, t2, s2, u2, v2⟩ := t_open (F := F) (q := x) hC0 t1 (i := i) (d := d + 1) (by omega) (by omega) (by omega) (by rw [a1, r2, hx]) (by rw [List.length_append, List.length_singleton]; omega) (f_L_types_13 F (f + qSz k + qSz r))
      have a2 : I2 a = I a := by rw [v2 a (by omega) (by omega), a1]
      obtain ⟨t', I3, b1, b2, b3, b4, b5, b6⟩ := ihk (d + 1) (i + 1) (f + qSz r) I2 (tx ++ [97 + w] ++ [40]) c0 (by omega) (by omega) (by omega) nk (by omega) (by rw [a2]; exact rk) (by rw [a2]; exact h62) (by rw [s2, hx]) (by rw [List.length_append, List.length_append, List.length_singleton, List.length_singleton]; omega) t2
      obtain ⟨t', rfl⟩ : ∃ y, t' = y + 1 := ⟨t' - 1, by omega⟩
      have ld : I3 al (d + 1) = nI (qLn r + 1) := by rw [b5 (d + 1) (Nat.le_refl _), u2 (d + 1) (by omega), al1, hst, Nat.add_comm]
      obtain ⟨I4, e4, t4, s4, u4, v4⟩ := t_close (F := F) (x := qLn r) (t := t') (i := i + qSz k) hC0 b3 (d := d + 1) (by omega) b4 (Or.inr ld) (by rw [List.length_append, List.length_append, List.length_append, List.length_singleton, List.length_singleton]; omega) (f_L_types_13 F (f + qSz r))
      obtain ⟨t2', I', y1, y2, y3, y4, y5, y6⟩ := tail t' I4 (tx ++ [97 + w] ++ [40] ++ prF k ++ [41]) (by omega) t4 (by rw [List.length_append, List.length_append, List.length_append, List.length_append, List.length_singleton, List.length_singleton, List.length_singleton]; omega) (s4.resolve_left (by omega)) (fun j hj => by rw [u4 j (by omega), b5 j (by omega), u2 j (by omega), al1]) (fun b z1 z2 => by rw [v4 b z1 z2, b6 b z1 z2, v2 b z1 z2, f1 b z1])
      refine ⟨t2', I', y1, ?_, ?_, y4, y5, y6⟩
      · rw [e2, show f + qSz k + qSz r = f + qSz r + qSz k by omega, b2, show i + 1 + qSz k - 1 = i + qSz k by omega, e4, y2]
      · rw [if_neg c0, show tx ++ (97 + w) :: (40 :: (prF k ++ [41]) ++ (if qLn r = 0 then [] else 44 :: prF r)) = tx ++ [97 + w] ++ [40] ++ prF k ++ [41] ++ (if qLn r = 0 then [] else 44 :: prF r) from by simp only [List.append_assoc, List.cons_append, List.nil_append]]
        exact y3
theorem t_0 (hC : tCx K a al N) {i t f : Nat} (hi : N ≤ i + 1) (hi2 : i < 20) (h62 : I a 62 = nI N) : f_L_types_106 F (f_L_types_13 F (f + 1)) (t + 1) n K I R (some 0) (some a) (some al) (nI 0) 1 (nI i) = some (1, n, K, I, R) := by
  obtain ⟨k1, k2, k3, k4, k5, k6⟩ := hC
  show g_L_types_106 F _ _ n K I R (some 0) (some a) (some al) (nI 0) 1 (nI i) = _
  unfold g_L_types_106 f_L_types_150 f_L_types_168 f_L_types_173 f_L_types_175
  rw [if_pos (by decide), if_neg (by decide), if_pos (show nI 0 = (0 : Int32) from rfl), nI_1]
  show g_L_types_13 F _ n K I R (some 0) (some a) (some al) (nI 0) 1 (nI (i + 1)) = _
  unfold g_L_types_13
  rw [zdr_s (by rw [k1]), zbd_s, show (62 : Int32) = nI 62 from rfl, zrd_s (by rw [k1]; decide) (by rw [k1]; decide), zbd_s, h62, if_pos (nI_le hi (by omega)), if_pos (Or.inr rfl)]
theorem l_types (hF : 5000 ≤ F) (h : cT K I R n S c []) (hKa : K a = (1, 63)) (ha : 89 ≤ a) (ha2 : a < 92) (hn : 92 ≤ n) {G : aFo} (h1 : qLn G = 1) (h2 : qHt G ≤ 6) (h3 : qSz G ≤ 14) (h4 : dN G) (hR : dRw (I a) (qLi G)) (h62 : I a 62 = nI (qSz G)) : ∃ I', f_L_types F n K I R (some 0) (some a) = some (1, n + 1, zset K n (1, 8), I', R) ∧ cT (zset K n (1, 8)) I' R (n + 1) S c (prF G) ∧ ∀ b, 2 ≤ b → b ≠ n → I' b = I b := by
  have k1 : zset K n (1, 8) a = (1, 63) := by unfold zset; rw [if_neg (by omega), hKa]
  have k2 : zset K n (1, 8) n = (1, 8) := by unfold zset; rw [if_pos rfl]
  have hC : tCx (zset K n (1, 8)) a n (qSz G) := ⟨k1, k2, ha, ha2, hn, h3⟩
  have hI : ∀ b, b ≠ n → zclr I n (0 : Int32) b = I b := fun b hb => by unfold zclr; funext j; rw [if_neg hb]
  have a0 := hI a (by omega)
  cases G with
  | leaf _ => cases h1
  | branch w k r =>
    have hr : qLn r = 0 := by rw [qLn] at h1; omega
    have hr0 := qLn_0 hr
    have hro : dRo (I a) 0 (Lean.RArray.branch w k r) := fun j v hv => by rw [Nat.zero_add]; exact hR j v hv
    obtain ⟨⟨r1, r2⟩, rk, -⟩ := dRo_b hro
    obtain ⟨⟨hw, hk3⟩, nk, nr⟩ := h4
    rw [qHt] at h2
    have hsz : qSz (Lean.RArray.branch w k r) = 1 + qSz k := by rw [qSz, hr0]; omega
    rw [hsz] at h3 h62 hC
    obtain ⟨f, hf⟩ : ∃ f, F = f + 1 + qSz k + 1 := ⟨F - 2 - qSz k, by omega⟩
    obtain ⟨I1, e1, t1, f1⟩ := t_13 (F := F) (d := 0) (i := 0) hC (cT_alloc h) hw (by rw [a0]; exact h62) (by omega) (by rw [a0]; exact r1) (by rw [a0]; exact r2) (by decide) (f_L_types_13 F (f + 1 + qSz k))
    have a1 : I1 a = I a := by rw [f1 a (by omega), a0]
    have start : f_L_types F n K I R (some 0) (some a) = f_L_types_48 F (f_L_types_13 F (f + 1 + qSz k)) (n + 1) (zset K n (1, 8)) I1 R (some 0) (some a) (some n) (nI 0) (nI 0) 1 := by
      unfold f_L_types
      rw [zbd3_s, ← e1]
      have e0 : f_L_types_13 F F = f_L_types_13 F (f + 1 + qSz k + 1) := congrArg _ hf
      rw [e0]
      rfl
    rw [start, prF, if_pos hr, List.append_nil]
    by_cases c0 : qLn k = 0
    · have z0 := qLn_0 c0
      obtain ⟨I2, e2, t2, s2, u2, v2⟩ := t_leaf (F := F) (x := 0) hC t1 (i := 0) (d := 0) (by omega) (by omega) (by rw [a1, r2, c0]) (Or.inl rfl) (f_L_types_13 F (f + 1 + qSz k))
      refine ⟨I2, ?_, by rw [if_pos c0]; exact t2, fun b z1 z2 => by rw [v2 b z2, f1 b z1, hI b z2]⟩
      obtain ⟨g, hg⟩ : ∃ g, F = g + 1 := ⟨F - 1, by omega⟩
      rw [e2, z0, show f_L_types_106 F (f_L_types_13 F (f + 1 + 0)) F = f_L_types_106 F (f_L_types_13 F (f + 1)) (g + 1) from congrArg _ hg]
      exact t_0 hC (by omega) (by omega) (by rw [v2 a (by omega), a1]; exact h62)
    · obtain ⟨x, hx⟩ : ∃ x, qLn k = x + 1 := ⟨qLn k - 1, by omega⟩
      have pl := prF_len k
      have ph := qHt_1 c0
      obtain ⟨I2, e2, t2, s2, u2, v2⟩ := t_open (F := F) (q := x) hC t1 (i := 0) (d := 0) (by omega) (by omega) (by omega) (by rw [a1, r2, hx]) (by show 1 < 80; omega) (f_L_types_13 F (f + 1 + qSz k))
      have a2 : I2 a = I a := by rw [v2 a (by omega) (by omega), a1]
      obtain ⟨t', I3, b1, b2, b3, b4, b5, b6⟩ := t_forest hF hC k 0 (0 + 1) (f + 1) I2 ([] ++ [97 + w] ++ [40]) c0 (by omega) (by omega) (by omega) nk (by omega) (by rw [a2]; exact rk) (by rw [a2]; exact h62) (by rw [s2, hx]) (by show 2 + 4 * qSz k ≤ 79; omega) t2
      obtain ⟨t', rfl⟩ : ∃ y, t' = y + 1 + 1 := ⟨t' - 2, by omega⟩
      obtain ⟨I4, e4, t4, s4, u4, v4⟩ := t_close (F := F) (x := 0) (t := t' + 1) (i := 0 + 1 + qSz k - 1) hC b3 (d := 0) (by omega) b4 (Or.inl rfl) (by rw [List.length_append]; show 2 + _ < 80; omega) (f_L_types_13 F (f + 1))
      refine ⟨I4, ?_, ?_, fun b z1 z2 => by rw [v4 b z1 z2, b6 b z1 z2, v2 b z1 z2, f1 b z1, hI b z2]⟩
      · rw [e2, b2, e4]
        exact t_0 hC (by omega) (by omega) (by rw [v4 a (by omega) (by omega), b6 a (by omega) (by omega), a2]; exact h62)
      · rw [if_neg c0, show (97 + w) :: 40 :: (prF k ++ [41]) = [] ++ [97 + w] ++ [40] ++ prF k ++ [41] from by simp only [List.append_assoc, List.cons_append, List.nil_append]]
        exact t4
end ZPS
