/-! Labels of nodes to come; copying nodes of a term -/
def LF (lab : Nat → List (Nat × Bool)) (sp : Nat → Nat) : Nat → Nat → List (Nat × Bool)
  | 0, _ => []
  | k + 1, i => lab i ++ LF lab sp k (i + sp i)
theorem LF_add (lab : Nat → List (Nat × Bool)) (sp : Nat → Nat) (a b i : Nat) : LF lab sp (a + b) i = LF lab sp a i ++ LF lab sp b (wk sp a i) := by
  induction a generalizing i with
  | zero => rw [Nat.zero_add]; rfl
  | succ a ih =>
    rw [show a + 1 + b = (a + b) + 1 by omega]
    show lab i ++ LF lab sp (a + b) (i + sp i) = (lab i ++ LF lab sp a (i + sp i)) ++ LF lab sp b (wk sp a (i + sp i))
    rw [ih, List.append_assoc]
theorem LF_mem {lab : Nat → List (Nat × Bool)} {sp : Nat → Nat} {x : Nat × Bool} : ∀ (k i : Nat), x ∈ LF lab sp k i → ∃ z, z < k ∧ x ∈ lab (wk sp z i) := by
  intro k
  induction k with
  | zero => intro i h; exact absurd h List.not_mem_nil
  | succ k ih =>
    intro i h
    rcases List.mem_append.mp h with h | h
    · exact ⟨0, by omega, h⟩
    · obtain ⟨z, z1, z2⟩ := ih _ h
      exact ⟨z + 1, by omega, z2⟩
def nTr : List (Nat × Bool) → Nat
  | [] => 0
  | x :: l => (if x.2 = true then 1 else 0) + nTr l
theorem nTr_app (a b : List (Nat × Bool)) : nTr (a ++ b) = nTr a + nTr b := by
  induction a with
  | nil => show nTr b = 0 + nTr b; omega
  | cons x a ih =>
    show (if x.2 = true then 1 else 0) + nTr (a ++ b) = (if x.2 = true then 1 else 0) + nTr a + nTr b
    rw [ih]; omega
theorem nTr_0 : ∀ (l : List (Nat × Bool)), nTr l = 0 → ∀ (k x : Nat), l[k]? ≠ some (x, true) := by
  intro l
  induction l with
  | nil => intro _ k x h; cases h
  | cons y l ih =>
    intro h k x hk
    have h' : (if y.2 = true then 1 else 0) + nTr l = 0 := h
    cases k with
    | zero =>
      rw [List.getElem?_cons_zero] at hk
      cases hk
      simp at h'
    | succ k =>
      rw [List.getElem?_cons_succ] at hk
      exact ih (by omega) k x hk
theorem oneS_of : ∀ (l : List (Nat × Bool)), nTr l ≤ 1 → oneS l := by
  intro l
  induction l with
  | nil => intro _ k l' x y h; cases h
  | cons z l ih =>
    intro h k l' x y h1 h2
    have h' : (if z.2 = true then 1 else 0) + nTr l ≤ 1 := h
    cases k with
    | zero =>
      rw [List.getElem?_cons_zero] at h1
      cases h1
      cases l' with
      | zero => rfl
      | succ l' =>
        rw [List.getElem?_cons_succ] at h2
        exact absurd h2 (nTr_0 l (by simp at h'; omega) l' y)
    | succ k =>
      rw [List.getElem?_cons_succ] at h1
      cases l' with
      | zero =>
        rw [List.getElem?_cons_zero] at h2
        cases h2
        exact absurd h1 (nTr_0 l (by simp at h'; omega) k x)
      | succ l' =>
        rw [List.getElem?_cons_succ] at h2
        rw [ih (by omega) k l' x y h1 h2]
def labU (U : Tm) (d0 j y : Nat) : List (Nat × Bool) := [(d0 + tdp U y - tdp U j, decide (ts U y = 3))]
theorem LFU_len (U : Tm) (d0 j : Nat) : ∀ k i, (LF (labU U d0 j) (tsp U) k i).length = k := by
  intro k
  induction k with
  | zero => intro i; rfl
  | succ k ih =>
    intro i
    show ((d0 + tdp U i - tdp U j, decide (ts U i = 3)) :: LF (labU U d0 j) (tsp U) k (i + tsp U i)).length = k + 1
    rw [List.length_cons, ih]
/-- at most one sequence hole among arguments that stand behind each other -/
theorem LFU_tr {U : Tm} (hU : tWF U) (d0 j : Nat) {q : Nat} (hq : q < tn U) : ∀ d x, x + d ≤ tr U q → nTr (LF (labU U d0 j) (tsp U) d (tc U q x)) ≤ (match sqO U q with | none => 0 | some g => if x ≤ g then 1 else 0) := by
  intro d
  induction d with
  | zero => intro x _; exact Nat.zero_le _
  | succ d ih =>
    intro x hx
    have h1 := ih (x + 1) (by omega)
    have e : nTr (LF (labU U d0 j) (tsp U) (d + 1) (tc U q x)) = (if ts U (tc U q x) = 3 then 1 else 0) + nTr (LF (labU U d0 j) (tsp U) d (tc U q (x + 1))) := by
      show nTr ((d0 + tdp U (tc U q x) - tdp U j, decide (ts U (tc U q x) = 3)) :: LF (labU U d0 j) (tsp U) d (tc U q x + tsp U (tc U q x))) = _
      rw [← tc_succ]
      show (if decide (ts U (tc U q x) = 3) = true then 1 else 0) + _ = _
      by_cases h : ts U (tc U q x) = 3
      · rw [if_pos h, if_pos (decide_eq_true h)]
      · rw [if_neg h, if_neg (fun e => h (of_decide_eq_true e))]
    rw [e]
    cases hs : sqO U q with
    | none =>
      rw [hs] at h1
      have := sqO_none hs x (by omega)
      rw [if_neg this]
      simp only at h1 ⊢
      omega
    | some g =>
      rw [hs] at h1
      simp only at h1 ⊢
      by_cases hxg : x = g
      · subst hxg
        rw [if_neg (by omega)] at h1
        rw [if_pos (Nat.le_refl _)]
        have : (if ts U (tc U q x) = 3 then 1 else 0) ≤ 1 := by
          by_cases h : ts U (tc U q x) = 3
          · rw [if_pos h]; exact Nat.le_refl _
          · rw [if_neg h]; exact Nat.zero_le _
        omega
      · rw [if_neg (sqO_ne hU hq hs (by omega) hxg)]
        by_cases h2 : x ≤ g
        · rw [if_pos h2]
          rw [if_pos (by omega)] at h1
          omega
        · rw [if_neg h2]
          rw [if_neg (by omega)] at h1
          omega
theorem LFU_one {U : Tm} (hU : tWF U) (d0 j : Nat) {q : Nat} (hq : q < tn U) {d x : Nat} (hx : x + d ≤ tr U q) : nTr (LF (labU U d0 j) (tsp U) d (tc U q x)) ≤ 1 := by
  have := LFU_tr hU d0 j hq d x hx
  cases hs : sqO U q with
  | none => rw [hs] at this; simp only at this; omega
  | some g =>
    rw [hs] at this
    simp only at this
    by_cases h : x ≤ g
    · rw [if_pos h] at this; exact this
    · rw [if_neg h] at this; omega
/-- what is made of a term U and a pattern: its nodes -/
def zBk (U : Tm) (L : List zNd) : Prop := okL L ∧ ∀ (i : Nat) (v : zNd), L[i]? = some v → vOk v ∧ (v.1 ≠ 0 → ∃ y, y < tn U ∧ ts U y = v.1 ∧ tg U y = v.2.1)
/-- the nodes on both sides; the reference counts them elsewhere -/
def zPq (I J : zI) (p to : Nat) (L : List zNd) : Prop := L.length ≤ 32 ∧ I p 3 = nI L.length ∧ ∀ (i : Nat) (v : zNd), L[i]? = some v → I (p + 1) i = nI (v.1 * 256 + v.2.1 * 16 + v.2.2.length) ∧ J 90 (to + 1 + 3 * i) = nI v.1 ∧ J 90 (to + 2 + 3 * i) = nI v.2.1 ∧ J 90 (to + 3 + 3 * i) = nI v.2.2.length
theorem zBk_snoc {U : Tm} {L : List zNd} (h : zBk U L) {v : zNd} {d : Nat} {g : Bool} {s : List (Nat × Bool)} (hs : stL L = (d, g) :: s) (hv : okV d g v) (hvo : vOk v) (hh : v.1 ≠ 0 → ∃ y, y < tn U ∧ ts U y = v.1 ∧ tg U y = v.2.1) : zBk U (L ++ [v]) := by
  refine ⟨okL_snoc h.1 hs hv, fun i w hw => ?_⟩
  by_cases hi : i < L.length
  · rw [List.getElem?_append_left hi] at hw
    exact h.2 i w hw
  · have hil : i = L.length := by
      by_cases h : i = L.length
      · exact h
      · rw [List.getElem?_eq_none (by simp; omega)] at hw
        cases hw
    subst hil
    rw [List.getElem?_append_right (Nat.le_refl _), Nat.sub_self] at hw
    simp only [List.getElem?_cons_zero, Option.some.injEq] at hw
    subst hw
    exact ⟨hvo, hh⟩
theorem zPq_snoc {I J : zI} {p to : Nat} {L : List zNd} (h : zPq I J p to L) (hn : L.length < 32) {s g r : Nat} {c : List (Nat × Bool)} (hc : c.length = r) : zPq (zAp I p L.length s g r) (zWr J to L.length s g r) p to (L ++ [(s, g, c)]) := by
  obtain ⟨q1, q2, q4⟩ := h
  have e91 : ∀ q, zWr J to L.length s g r 90 q = if q = to + 3 + 3 * L.length then nI r else if q = to + 2 + 3 * L.length then nI g else if q = to + 1 + 3 * L.length then nI s else J 90 q := fun q => by
    unfold zWr
    rw [zup_row, zup_row, zup_row]
  refine ⟨by rw [List.length_append]; exact hn, ?_, fun i w hw => ?_⟩
  · rw [List.length_append]
    unfold zAp
    rw [zup_self]; rfl
  · by_cases hi : i < L.length
    · rw [List.getElem?_append_left hi] at hw
      obtain ⟨x1, x2, x3, x4⟩ := q4 i w hw
      rw [e91, e91, e91, if_neg (by omega), if_neg (by omega), if_neg (by omega), if_neg (by omega), if_neg (by omega), if_neg (by omega), if_neg (by omega), if_neg (by omega), if_neg (by omega)]
      refine ⟨?_, x2, x3, x4⟩
      unfold zAp
      rw [zup_nb _ _ _ (by omega), zup_self_ne _ _ _ (by omega)]
      exact x1
    · have hil : i = L.length := by
        by_cases h : i = L.length
        · exact h
        · rw [List.getElem?_eq_none (by simp; omega)] at hw
          cases hw
      subst hil
      rw [List.getElem?_append_right (Nat.le_refl _), Nat.sub_self] at hw
      simp only [List.getElem?_cons_zero, Option.some.injEq] at hw
      subst hw
      refine ⟨?_, ?_, ?_, ?_⟩
      · unfold zAp
        rw [zup_nb _ _ _ (by omega), zup_self, ← hc]
      · rw [e91, if_neg (by omega), if_neg (by omega), if_pos rfl]
      · rw [e91, if_neg (by omega), if_pos rfl]
      · rw [e91, if_pos rfl, ← hc]
/-- frames of building -/
def zBfC (p : Nat) (I I' : zI) : Prop := ∀ b, b ≠ p → b ≠ p + 1 → I' b = I b
def zBfJ (to : Nat) (J J' : zI) : Prop := (∀ b, b ≠ 90 → J' b = J b) ∧ ∀ q, q ≤ to ∨ to + 97 ≤ q → J' 90 q = J 90 q
theorem zBf_ap {I J : zI} {p to n s g r : Nat} (hn : n < 32) : zBfC p I (zAp I p n s g r) ∧ zBfJ to J (zWr J to n s g r) := by
  refine ⟨fun b b1 b2 => ?_, fun b b1 => zWr_ne b1 _ _ _ _, fun q hq => ?_⟩
  · unfold zAp; rw [zup_ne _ _ _ b1, zup_ne _ _ _ b2]
  · unfold zWr; rw [zup_self_ne _ _ _ (by omega), zup_self_ne _ _ _ (by omega), zup_self_ne _ _ _ (by omega)]
theorem zBfC_trans {p : Nat} {I I' I'' : zI} (h : zBfC p I I') (h2 : zBfC p I' I'') : zBfC p I I'' := fun b b1 b2 => by rw [h2 b b1 b2, h b b1 b2]
theorem zBfJ_trans {to : Nat} {J J' J'' : zI} (h : zBfJ to J J') (h2 : zBfJ to J' J'') : zBfJ to J J'' := ⟨fun b b1 => by rw [h2.1 b b1, h.1 b b1], fun q hq => by rw [h2.2 q hq, h.2 q hq]⟩
section ZCP
variable {F : Nat} {K : zK} {R : zR} {RM : zR} {u q p to : Nat} {U : Tm}
/-- copying c nodes from j on -/
theorem copy_both (hF : 200 ≤ F) (hRM : zRM RM) (hU : tWF U) (hu : 92 ≤ u) (hup : u + 4 ≤ p) (hq : q + 97 ≤ to) (hto : to + 97 ≤ 5751) (kp : K (p + 1) = (1, 32)) (rp : R p 0 = some (p + 1)) {j c d0 h : Nat} (hh : h < 10) (hjc : j + c ≤ tn U) {rest : List (Nat × Bool)} (k15 : zI → Int32 → Int32 → Int32 → Int32 → Int32 → Option (Int32 × zI)) (x1 x5 x6 : Int32) : ∀ (d x f f' s : Nat) (I J : zI) (L : List zNd), x + d = c → d < f → d < f' → zTc K I R u U → zTm (J 90) q U → J 112 h = nI j → zPq I J p to L → zBk U L → L.length + d ≤ 32 → stL L = LF (labU U d0 j) (tsp U) s (j + x) ++ rest → wk (tsp U) s (j + x) = j + c → (∀ k, k < s → tdp U j ≤ d0 + tdp U (wk (tsp U) k (j + x))) →
    ∃ I' J' L', f_X5_appendNodes_3 F K R p f I (some u) (nI j) (nI c) (nI (j + x)) = some (1, I') ∧ f_X7_builds_113 F zKm RM 89 k15 f' J x1 (nI q) (nI to) (nI L.length) x5 x6 (nI h) 1 (nI c) (nI x) = k15 J' x1 (nI q) (nI to) (nI L'.length) (x5 + 1) ∧ zPq I' J' p to L' ∧ zBk U L' ∧ stL L' = rest ∧ zBfC p I I' ∧ zBfJ to J J' ∧ L'.length = L.length + d := by
  have r0 : RM 89 0 = some 90 := hRM 89 0 (by decide) (by decide) (by decide)
  have r30 : RM 89 30 = some 112 := hRM 89 30 (by decide) (by decide) (by decide)
  have k113 : zKm 112 = (1, 10) := rfl
  have hn := hU.1.2.1
  intro d
  induction d with
  | zero =>
    intro x f f' s I J L hx hf hf' hUc hUm hJ hPq hBk hl hst hw hdp
    obtain ⟨f, rfl⟩ : ∃ g, f = g + 1 := ⟨f - 1, by omega⟩
    obtain ⟨f', rfl⟩ : ∃ g, f' = g + 1 := ⟨f' - 1, by omega⟩
    have hs : s = 0 := by have := wk_ge hU.1 s (j + x); omega
    subst hs
    refine ⟨I, J, L, ?_, ?_, hPq, hBk, by rw [hst]; rfl, fun _ _ _ => rfl, ⟨fun _ _ => rfl, fun _ _ => rfl⟩, rfl⟩
    · show g_X5_appendNodes_3 F K R p _ I (some u) (nI j) (nI c) (nI (j + x)) = _
      unfold g_X5_appendNodes_3
      rw [nI_add, if_pos (nI_le (by omega) (by omega))]
    · show g_X7_builds_113 F zKm RM 89 k15 _ J x1 (nI q) (nI to) (nI L.length) x5 x6 (nI h) 1 (nI c) (nI x) = _
      unfold g_X7_builds_113
      rw [if_pos (nI_le (by omega) (by omega))]
  | succ d ih =>
    intro x f f' s I J L hx hf hf' hUc hUm hJ hPq hBk hl hst hw hdp
    obtain ⟨f, rfl⟩ : ∃ g, f = g + 1 := ⟨f - 1, by omega⟩
    obtain ⟨f', rfl⟩ : ∃ g, f' = g + 1 := ⟨f' - 1, by omega⟩
    have hyU : j + x < tn U := by omega
    obtain ⟨a1, a2, a3, a4, a5, a6, a7⟩ := hU.2.1 (j + x) hyU
    have a8 : tg U (j + x) ≤ 12 := by
      by_cases h0 : ts U (j + x) = 0
      · exact a3 h0
      · have := a4 h0; omega
    have hs : s ≠ 0 := fun e => by rw [e] at hw; have : j + x = j + c := hw; omega
    obtain ⟨s, rfl⟩ : ∃ g, s = g + 1 := ⟨s - 1, by omega⟩
    have hd0 := hdp 0 (by omega)
    have hd0' : tdp U j ≤ d0 + tdp U (j + x) := hd0
    have he := tc_end hU.1 hyU
    have hst' : stL L = (d0 + tdp U (j + x) - tdp U j, decide (ts U (j + x) = 3)) :: (LF (labU U d0 j) (tsp U) s (j + x + tsp U (j + x)) ++ rest) := hst
    have hlen := LFU_len U d0 j (tr U (j + x)) (j + x + 1)
    have hok : okV (d0 + tdp U (j + x) - tdp U j) (decide (ts U (j + x) = 3)) (ts U (j + x), tg U (j + x), LF (labU U d0 j) (tsp U) (tr U (j + x)) (j + x + 1)) := by
      refine ⟨⟨fun e => decide_eq_true e, fun e => of_decide_eq_true e⟩, fun y hy => ?_, oneS_of _ ?_⟩
      · obtain ⟨z, z1, z2⟩ := LF_mem _ _ hy
        have z3 : y = (d0 + tdp U (wk (tsp U) z (j + x + 1)) - tdp U j, decide (ts U (wk (tsp U) z (j + x + 1)) = 3)) := List.mem_singleton.mp z2
        have z4 := hU.1.2.2.2.2.2.2 (j + x) hyU z z1
        rw [z3]
        show d0 + tdp U (tc U (j + x) z) - tdp U j = _
        rw [z4]; omega
      · exact LFU_one hU d0 j hyU (x := 0) (by omega)
    obtain ⟨fC, fJ⟩ := zBf_ap (I := I) (J := J) (p := p) (to := to) (n := L.length) (s := ts U (j + x)) (g := tg U (j + x)) (r := tr U (j + x)) (by omega)
    have hPq1 := zPq_snoc hPq (show L.length < 32 by omega) (s := ts U (j + x)) (g := tg U (j + x)) hlen
    have hBk1 := zBk_snoc hBk hst' hok ⟨a1, by rw [hlen]; exact a2, a3, a4, fun e => by rw [hlen]; exact a5 e, fun e => by rw [hlen]; exact a6 e⟩ (fun _ => ⟨j + x, hyU, rfl, rfl⟩)
    have hUc1 : zTc K (zAp I p L.length (ts U (j + x)) (tg U (j + x)) (tr U (j + x))) R u U := zTc_keep hUc (fun b b1 b2 => ⟨rfl, fC b (by omega) (by omega), rfl⟩)
    have hUm1 : zTm (zWr J to L.length (ts U (j + x)) (tg U (j + x)) (tr U (j + x)) 90) q U := zTm_keep hUm (fun z hz => fJ.2 _ (Or.inl (by omega))) hn
    obtain ⟨I', J', L', b1, b2, b3, b4, b5, b6, b7, b8⟩ := ih (x + 1) f f' (tr U (j + x) + s) _ _ (L ++ [(ts U (j + x), tg U (j + x), LF (labU U d0 j) (tsp U) (tr U (j + x)) (j + x + 1))]) (by omega) (by omega) (by omega) hUc1 hUm1 (by rw [fJ.1 112 (by decide)]; exact hJ) hPq1 hBk1 (by rw [List.length_append]; show L.length + 1 + d ≤ 32; omega) (by
      rw [stL_snoc, hst', show j + (x + 1) = j + x + 1 by omega, LF_add, List.append_assoc, show wk (tsp U) (tr U (j + x)) (j + x + 1) = j + x + tsp U (j + x) from he.1]
      rfl) (by rw [show j + (x + 1) = j + x + 1 by omega, wk_add, show wk (tsp U) (tr U (j + x)) (j + x + 1) = j + x + tsp U (j + x) from he.1]; exact hw) (fun k hk => by
      rw [show j + (x + 1) = j + x + 1 by omega]
      by_cases hk2 : k < tr U (j + x)
      · have := hU.1.2.2.2.2.2.2 (j + x) hyU k hk2
        show tdp U j ≤ d0 + tdp U (tc U (j + x) k)
        rw [this]; omega
      · obtain ⟨k', rfl⟩ : ∃ k', k = tr U (j + x) + k' := ⟨k - tr U (j + x), by omega⟩
        rw [wk_add, show wk (tsp U) (tr U (j + x)) (j + x + 1) = j + x + tsp U (j + x) from he.1]
        exact hdp (k' + 1) (by omega))
    refine ⟨I', J', L', ?_, ?_, b3, b4, b5, zBfC_trans fC b6, zBfJ_trans fJ b7, by rw [b8, List.length_append]; show L.length + 1 + d = _; omega⟩
    · show g_X5_appendNodes_3 F K R p _ I (some u) (nI j) (nI c) (nI (j + x)) = _
      unfold g_X5_appendNodes_3
      rw [nI_add, if_neg (nI_ge (by omega) (by omega)), zdr_s (t := 15) (by rw [hUc.1]), zbd_s, X5_headOf hUc hU hyU, zbd_s, X5_argumentsOf hUc hU hyU, zbd_s, X5_append_ok kp rp hPq.2.1 (by omega) (show ts U (j + x) * 16 + tg U (j + x) < 64 by omega) a2, zbd2_s, if_neg (by decide), nI_1, show (ts U (j + x) * 16 + tg U (j + x)) * 16 + tr U (j + x) = ts U (j + x) * 256 + tg U (j + x) * 16 + tr U (j + x) by omega]
      exact b1
    · show g_X7_builds_113 F zKm RM 89 k15 _ J x1 (nI q) (nI to) (nI L.length) x5 x6 (nI h) 1 (nI c) (nI x) = _
      unfold g_X7_builds_113 f_X7_builds_237
      rw [if_neg (nI_ge (by omega) (by omega)), if_neg (by decide), r30, zbd_s, zdr_s (t := 1) (by rw [k113]), zbd_s, zrd_s (by rw [k113]; exact hh) (by rw [k113]; decide), zbd_s, hJ, nI_add, X7_sort r0 (by omega) hUm hn hyU, zbd_s, zbd_s, zdr_s (t := 1) (by rw [k113]), zbd_s, zrd_s (by rw [k113]; exact hh) (by rw [k113]; decide), zbd_s, hJ, nI_add, X7_number r0 (by omega) hUm hn hyU, zbd_s, zbd_s, zdr_s (t := 1) (by rw [k113]), zbd_s, zrd_s (by rw [k113]; exact hh) (by rw [k113]; decide), zbd_s, hJ, nI_add, X7_arguments r0 (by omega) hUm hn hyU, zbd_s, X7_writes hRM hto (show L.length < 32 by omega), zbd_s, nI_1, nI_1]
      rw [List.length_append] at b2
      exact b2
/-- too many nodes: the class alone -/
theorem copy_full (hU : tWF U) (hu : 92 ≤ u) (hup : u + 4 ≤ p) (kp : K (p + 1) = (1, 32)) (rp : R p 0 = some (p + 1)) {j c : Nat} (hjc : j + c ≤ tn U) : ∀ (d x f n : Nat) (I : zI), x + d = c → d < f → zTc K I R u U → I p 3 = nI n → n ≤ 32 → 32 < n + d → ∃ I', f_X5_appendNodes_3 F K R p f I (some u) (nI j) (nI c) (nI (j + x)) = some (0, I') ∧ zBfC p I I' := by
  have hn := hU.1.2.1
  intro d
  induction d with
  | zero => intro x f n I hx hf hUc hI h1 h2; omega
  | succ d ih =>
    intro x f n I hx hf hUc hI h1 h2
    obtain ⟨f, rfl⟩ : ∃ g, f = g + 1 := ⟨f - 1, by omega⟩
    have hyU : j + x < tn U := by omega
    obtain ⟨a1, a2, a3, a4, a5, a6, a7⟩ := hU.2.1 (j + x) hyU
    have a8 : tg U (j + x) ≤ 12 := by
      by_cases h0 : ts U (j + x) = 0
      · exact a3 h0
      · have := a4 h0; omega
    by_cases hn32 : n = 32
    · refine ⟨I, ?_, fun _ _ _ => rfl⟩
      show g_X5_appendNodes_3 F K R p _ I (some u) (nI j) (nI c) (nI (j + x)) = _
      unfold g_X5_appendNodes_3
      rw [nI_add, if_neg (nI_ge (by omega) (by omega)), zdr_s (t := 15) (by rw [hUc.1]), zbd_s, X5_headOf hUc hU hyU, zbd_s, X5_argumentsOf hUc hU hyU, zbd_s, X5_append_full kp rp (by rw [hI, hn32]) (show ts U (j + x) * 16 + tg U (j + x) < 64 by omega), zbd2_s, if_pos rfl]
    · have fC : zBfC p I (zAp I p n (ts U (j + x)) (tg U (j + x)) (tr U (j + x))) := fun b b1 b2 => by unfold zAp; rw [zup_ne _ _ _ b1, zup_ne _ _ _ b2]
      have hUc1 : zTc K (zAp I p n (ts U (j + x)) (tg U (j + x)) (tr U (j + x))) R u U := zTc_keep hUc (fun b b1 b2 => ⟨rfl, fC b (by omega) (by omega), rfl⟩)
      obtain ⟨I', b1, b2⟩ := ih (x + 1) f (n + 1) _ (by omega) (by omega) hUc1 (by unfold zAp; rw [zup_self]) (by omega) (by omega)
      refine ⟨I', ?_, zBfC_trans fC b2⟩
      show g_X5_appendNodes_3 F K R p _ I (some u) (nI j) (nI c) (nI (j + x)) = _
      unfold g_X5_appendNodes_3
      rw [nI_add, if_neg (nI_ge (by omega) (by omega)), zdr_s (t := 15) (by rw [hUc.1]), zbd_s, X5_headOf hUc hU hyU, zbd_s, X5_argumentsOf hUc hU hyU, zbd_s, X5_append_ok kp rp hI (by omega) (show ts U (j + x) * 16 + tg U (j + x) < 64 by omega) a2, zbd2_s, if_neg (by decide), nI_1, show (ts U (j + x) * 16 + tg U (j + x)) * 16 + tr U (j + x) = ts U (j + x) * 256 + tg U (j + x) * 16 + tr U (j + x) by omega]
      exact b1
end ZCP
