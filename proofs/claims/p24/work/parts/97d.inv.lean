/-! put(): what is read is ONE TERM at all times */ -/
def aInv (n : Nat) (s g r : Nat → Nat) (D : Nat) (o q : Nat → Nat) : Prop := ∃ L : List zNd, L.length = n ∧ (∀ i, i < n → (vAt L i).1 = s i ∧ (vAt L i).2.1 = g i ∧ (vAt L i).2.2.length = r i) ∧ okL L ∧ (0 < n → stL L = []) ∧ (∀ k, k < D → o k < n ∧ ∃ g', stL (L.take (o k)) = [(k, g')]) ∧ (∀ k l, k < l → l < D → o k < o l) ∧ (∀ k, k < D → q k = 0 → ∀ x, x ∈ (vAt L (o k)).2.2 → x.2 = false) ∧ ∀ i, i < n → dpL L i ≤ 7
def aHol (n : Nat) (s g r : Nat → Nat) (D : Nat) (o hs : Nat → Nat) : Prop := (∀ i, i < n → s i ≠ 0 → hs (g i) = s i) ∧ (∀ i, i < n → s i = 1 ∨ s i = 3 → r i = 0) ∧ (∀ k, k < D → s (o k) = 0 ∨ s (o k) = 2) ∧ ∀ i, i < n → s i = 2 → 1 ≤ r i ∨ (0 < D ∧ i = o (D - 1))
section ZPD
theorem stL_take_eq {L L' : List zNd} {a : Nat} (h : ∀ i, i < a → L'[i]? = L[i]?) (ha : a ≤ L.length) : ∀ i, i ≤ a → stL (L'.take i) = stL (L.take i) := by
  intro i
  induction i with
  | zero => intro _; rfl
  | succ i ih =>
    intro hi
    have e := vAt_some (L := L) (i := i) (by omega)
    rw [stL_take_succ e, stL_take_succ ((h i (by omega)).trans e), ih (by omega)]
/-- one more label at the end of a node at the end of the row -/
theorem stL_grow {L L' : List zNd} {a : Nat} {v v' : zNd} {x d : Nat × Bool} (hL : okL L) (ha : L[a]? = some v) (ha' : L'[a]? = some v') (hv : v'.2.2 = v.2.2 ++ [x]) (h : ∀ i, i < L.length → i ≠ a → L'[i]? = L[i]?) (hs : stL (L.take a) = [d]) : ∀ m i, i = a + 1 + m → i ≤ L.length → stL (L'.take i) = stL (L.take i) ++ [x] := by
  have hal : a < L.length := by
    rcases Nat.lt_or_ge a L.length with h | h
    · exact h
    · rw [List.getElem?_eq_none h] at ha; cases ha
  intro m
  induction m with
  | zero =>
    intro i hi _
    subst hi
    rw [Nat.add_zero, stL_take_succ ha, stL_take_succ ha', stL_take_eq (a := a) (fun i hi => h i (by omega) (by omega)) (by omega) a (Nat.le_refl _), hs, hv]
    simp
  | succ m ih =>
    intro i hi hil
    obtain ⟨j, rfl⟩ : ∃ j, i = j + 1 := ⟨i - 1, by omega⟩
    have e := vAt_some (L := L) (i := j) (by omega)
    obtain ⟨d', g', s', e1, -⟩ := hL j _ e
    rw [stL_take_succ e, stL_take_succ ((h j (by omega) (by omega)).trans e), ih j (by omega) (by omega), e1]
    simp
variable {n D : Nat} {s g r o q hs : Nat → Nat} {so v : Nat}
theorem aInv_0 : aInv 0 s g r 0 o q := ⟨[], rfl, fun i h => by omega, okL_nil, fun h => by omega, fun k h => by omega, fun k l _ h => by omega, fun k h => by omega, fun i h => by omega⟩
/-- the first node -/
theorem aInv_first (h3 : so ≠ 3) : aInv 1 (aUp s 0 so) (aUp g 0 v) (aRn r 0 0 o) 0 o q := by
  refine ⟨[(so, v, [])], rfl, fun i hi => ?_, ?_, fun _ => rfl, fun k h => by omega, fun k l _ h => by omega, fun k h => by omega, fun i hi => ?_⟩
  · obtain rfl : i = 0 := by omega
    unfold aUp aRn
    rw [if_pos rfl, if_pos rfl, if_pos rfl]
    exact ⟨rfl, rfl, rfl⟩
  · have := okL_snoc okL_nil (v := (so, v, [])) (d := 0) (g := false) (s := []) rfl ⟨⟨fun e => absurd e h3, fun e => by cases e⟩, fun x hx => (by cases hx), fun k l x y h => by simp at h⟩
    exact this
  · obtain rfl : i = 0 := by omega
    exact Nat.zero_le _
/-- one more argument of the innermost open node -/
theorem aInv_next (hI : aInv n s g r D o q) (hD : 0 < D) (hD7 : D ≤ 7) (hq : so = 3 → q (D - 1) = 0) : aInv (n + 1) (aUp s n so) (aUp g n v) (aRn r n D o) D o (if so = 3 then aUp q (D - 1) 1 else q) ∧ ∃ L' : List zNd, L'.length = n + 1 ∧ (∀ i, i < n + 1 → (vAt L' i).1 = aUp s n so i ∧ (vAt L' i).2.1 = aUp g n v i ∧ (vAt L' i).2.2.length = aRn r n D o i) ∧ okL L' ∧ stL L' = [] ∧ (∀ k, k < D → o k < n + 1 ∧ ∃ g', stL (L'.take (o k)) = [(k, g')]) ∧ (∀ k l, k < l → l < D → o k < o l) ∧ (∀ k, k < D → (if so = 3 then aUp q (D - 1) 1 else q) k = 0 → ∀ x, x ∈ (vAt L' (o k)).2.2 → x.2 = false) ∧ (∀ i, i < n + 1 → dpL L' i ≤ 7) ∧ stL (L'.take n) = [(D, decide (so = 3))] ∧ (vAt L' n).2.2 = [] := by
  obtain ⟨L, l1, l2, l3, l4, l5, l6, l7, l8⟩ := hI
  obtain ⟨a1, ga, a2⟩ := l5 (D - 1) (by omega)
  have hn : 0 < n := by omega
  obtain ⟨a, ha⟩ : ∃ a, a = o (D - 1) := ⟨_, rfl⟩
  rw [← ha] at a1 a2
  have eA := vAt_some (L := L) (i := a) (by omega)
  obtain ⟨w, hw⟩ : ∃ w : zNd, w = ((vAt L a).1, (vAt L a).2.1, (vAt L a).2.2 ++ [(D, decide (so = 3))]) := ⟨_, rfl⟩
  obtain ⟨M, hM⟩ : ∃ M : List zNd, M = L.set a w := ⟨_, rfl⟩
  have m1 : M.length = n := by rw [hM, List.length_set, l1]
  have mA : M[a]? = some w := by rw [hM, List.getElem?_set_self (by omega)]
  have mN : ∀ i, i < L.length → i ≠ a → M[i]? = L[i]? := fun i _ hi => by rw [hM, List.getElem?_set_ne (fun e => hi e.symm)]
  have mlow : ∀ i, i ≤ a → stL (M.take i) = stL (L.take i) := stL_take_eq (fun i hi => mN i (by omega) (by omega)) (by omega)
  have mhi : ∀ i, a < i → i ≤ n → stL (M.take i) = stL (L.take i) ++ [(D, decide (so = 3))] := fun i h1 h2 => stL_grow l3 eA mA (by rw [hw]) mN a2 (i - (a + 1)) i (by omega) (by omega)
  have mall : stL M = [(D, decide (so = 3))] := by
    have := mhi n a1 (Nat.le_refl _)
    rw [List.take_of_length_le (by omega), List.take_of_length_le (by omega), l4 hn] at this
    exact this
  have okM : okL M := fun i x hx => by
    have hi : i < n := by
      rcases Nat.lt_or_ge i n with h | h
      · exact h
      · rw [List.getElem?_eq_none (by omega)] at hx; cases hx
    by_cases hia : i = a
    · subst hia
      rw [mA] at hx
      cases hx
      obtain ⟨d, g', s', e1, e2, e3, e4⟩ := l3 i _ eA
      rw [a2] at e1
      cases e1
      refine ⟨D - 1, ga, [], by rw [mlow i (Nat.le_refl _), a2], by rw [hw]; exact e2, fun x hx => ?_, fun k l x y h1 h2 => ?_⟩
      · rw [hw] at hx
        rcases List.mem_append.mp hx with h | h
        · exact e3 x h
        · rw [List.mem_singleton.mp h]
          show D = D - 1 + 1
          omega
      · rw [hw] at h1 h2
        have noT : so = 3 → ∀ k x, (vAt L i).2.2[k]? = some (x, true) → False := fun h3 k x h => by
          have := l7 (D - 1) (by omega) (hq h3) (x, true) (by rw [← ha]; exact List.mem_of_getElem? h)
          cases this
        have c1 : ∀ k x, ((vAt L i).2.2 ++ [(D, decide (so = 3))])[k]? = some (x, true) → ((vAt L i).2.2[k]? = some (x, true)) ∨ (so = 3 ∧ k = (vAt L i).2.2.length) := fun k x h => by
          rcases Nat.lt_or_ge k (vAt L i).2.2.length with hk | hk
          · rw [List.getElem?_append_left hk] at h
            exact Or.inl h
          · rw [List.getElem?_append_right hk] at h
            by_cases h0 : k - (vAt L i).2.2.length = 0
            · rw [h0] at h
              simp only [List.getElem?_cons_zero, Option.some.injEq, Prod.mk.injEq, decide_eq_true_eq] at h
              exact Or.inr ⟨h.2, by omega⟩
            · rw [List.getElem?_eq_none (by simp; omega)] at h
              cases h
        rcases c1 k x h1 with b1 | ⟨b1, b2⟩
        · rcases c1 l y h2 with b3 | ⟨b3, b4⟩
          · exact e4 k l x y b1 b3
          · exact absurd b1 (fun h => noT b3 _ _ h)
        · rcases c1 l y h2 with b3 | ⟨b3, b4⟩
          · exact absurd b3 (fun h => noT b1 _ _ h)
          · omega
    · rw [mN i (by omega) hia] at hx
      obtain ⟨d, g', s', e1, e2⟩ := l3 i x hx
      rcases Nat.lt_or_ge i a with h | h
      · exact ⟨d, g', s', by rw [mlow i (by omega)]; exact e1, e2⟩
      · exact ⟨d, g', s' ++ [(D, decide (so = 3))], by rw [mhi i (by omega) (by omega), e1]; rfl, e2⟩
  have okN : okL (M ++ [(so, v, [])]) := okL_snoc okM mall ⟨by simp, fun x hx => (by cases hx), fun k l x y h => by simp at h⟩
  have vlow : ∀ i, i < n → vAt (M ++ [(so, v, [])]) i = vAt M i := fun i hi => by
    have e := vAt_some (L := M) (i := i) (by omega)
    exact vAt_of (by rw [List.getElem?_append_left (by omega)]; exact e)
  have vn : vAt (M ++ [(so, v, [])]) n = (so, v, []) := vAt_of (by rw [List.getElem?_append_right (by omega), m1, Nat.sub_self]; rfl)
  have vMA : vAt M a = w := vAt_of mA
  have vMN : ∀ i, i < n → i ≠ a → vAt M i = vAt L i := fun i h1 h2 => vAt_of ((mN i (by omega) h2).trans (vAt_some (by omega)))
  have tlow : ∀ i, i ≤ n → (M ++ [(so, v, [])]).take i = M.take i := fun i hi => List.take_append_of_le_length (by omega)
  have p1 : (M ++ [(so, v, [])]).length = n + 1 := by rw [List.length_append, m1]; rfl
  have p2 : ∀ i, i < n + 1 → (vAt (M ++ [(so, v, [])]) i).1 = aUp s n so i ∧ (vAt (M ++ [(so, v, [])]) i).2.1 = aUp g n v i ∧ (vAt (M ++ [(so, v, [])]) i).2.2.length = aRn r n D o i := fun i hi => by
    unfold aUp aRn
    by_cases hin : i = n
    · rw [hin, vn, if_pos rfl, if_pos rfl, if_pos rfl]
      exact ⟨rfl, rfl, rfl⟩
    · rw [vlow i (by omega), if_neg hin, if_neg hin, if_neg hin, ← ha]
      obtain ⟨c1, c2, c3⟩ := l2 i (by omega)
      by_cases hia : i = a
      · rw [hia, vMA, hw, if_pos ⟨hD, rfl⟩, ← hia]
        refine ⟨c1, c2, ?_⟩
        show ((vAt L i).2.2 ++ [(D, decide (so = 3))]).length = r i + 1
        rw [List.length_append, c3]
        rfl
      · rw [vMN i (by omega) hia, if_neg (fun e => hia e.2)]
        exact ⟨c1, c2, c3⟩
  have p4 : stL (M ++ [(so, v, [])]) = [] := by rw [stL_snoc, mall]; rfl
  have hoa : ∀ k, k < D → o k ≤ a := fun k hk => by
    by_cases e : k = D - 1
    · rw [e, ← ha]; exact Nat.le_refl _
    · have := l6 k (D - 1) (by omega) (by omega)
      rw [← ha] at this
      omega
  have p5 : ∀ k, k < D → o k < n + 1 ∧ ∃ g', stL ((M ++ [(so, v, [])]).take (o k)) = [(k, g')] := fun k hk => by
    obtain ⟨b1, g', b2⟩ := l5 k hk
    exact ⟨by omega, g', by rw [tlow _ (by omega), mlow _ (hoa k hk)]; exact b2⟩
  have p7 : ∀ k, k < D → (if so = 3 then aUp q (D - 1) 1 else q) k = 0 → ∀ x, x ∈ (vAt (M ++ [(so, v, [])]) (o k)).2.2 → x.2 = false := fun k hk hq0 x hx => by
    obtain ⟨b1, -⟩ := l5 k hk
    rw [vlow _ b1] at hx
    by_cases e : k = D - 1
    · by_cases h3 : so = 3
      · rw [if_pos h3] at hq0
        unfold aUp at hq0
        rw [if_pos e] at hq0
        cases hq0
      · rw [if_neg h3] at hq0
        rw [e, ← ha, vMA, hw] at hx
        rcases List.mem_append.mp hx with h | h
        · exact l7 k hk hq0 x (by rw [e, ← ha]; exact h)
        · rw [List.mem_singleton.mp h]
          exact decide_eq_false h3
    · have hlt := l6 k (D - 1) (by omega) (by omega)
      rw [← ha] at hlt
      rw [vMN _ b1 (by omega)] at hx
      have hq1 : q k = 0 := by
        by_cases h3 : so = 3
        · rw [if_pos h3] at hq0
          unfold aUp at hq0
          rw [if_neg e] at hq0
          exact hq0
        · rw [if_neg h3] at hq0
          exact hq0
      exact l7 k hk hq1 x hx
  have hlast : stL ((M ++ [(so, v, [])]).take n) = [(D, decide (so = 3))] := by
    rw [tlow n (Nat.le_refl _), List.take_of_length_le (by omega)]
    exact mall
  have p8 : ∀ i, i < n + 1 → dpL (M ++ [(so, v, [])]) i ≤ 7 := fun i hi => by
    by_cases hin : i = n
    · unfold dpL
      rw [hin, hlast]
      exact hD7
    · have e1 : dpL (M ++ [(so, v, [])]) i = dpL L i := by
        unfold dpL
        rw [tlow i (by omega)]
        rcases Nat.lt_or_ge a i with h | h
        · obtain ⟨d, g', s', e1, -⟩ := l3 i _ (vAt_some (by omega))
          rw [mhi i h (by omega), e1]
          rfl
        · rw [mlow i h]
      rw [e1]
      exact l8 i (by omega)
  exact ⟨⟨_, p1, p2, okN, fun _ => p4, p5, l6, p7, p8⟩, _, p1, p2, okN, p4, p5, l6, p7, p8, hlast, by rw [vn]⟩
/-- the new node opens -/
theorem aInv_open {L' : List zNd} (p1 : L'.length = n + 1) (p2 : ∀ i, i < n + 1 → (vAt L' i).1 = s i ∧ (vAt L' i).2.1 = g i ∧ (vAt L' i).2.2.length = r i) (p3 : okL L') (p4 : stL L' = []) (p5 : ∀ k, k < D → o k < n ∧ ∃ g', stL (L'.take (o k)) = [(k, g')]) (p6 : ∀ k l, k < l → l < D → o k < o l) (p7 : ∀ k, k < D → q k = 0 → ∀ x, x ∈ (vAt L' (o k)).2.2 → x.2 = false) (p8 : ∀ i, i < n + 1 → dpL L' i ≤ 7) {gg : Bool} (p9 : stL (L'.take n) = [(D, gg)]) (p10 : (vAt L' n).2.2 = []) : aInv (n + 1) s g r (D + 1) (aUp o D n) (aUp q D 0) := by
  refine ⟨L', p1, p2, p3, fun _ => p4, fun k hk => ?_, fun k l hk hl => ?_, fun k hk hq x hx => ?_, p8⟩
  · unfold aUp
    by_cases e : k = D
    · rw [if_pos e]; exact ⟨by omega, gg, by rw [e]; exact p9⟩
    · rw [if_neg e]
      obtain ⟨b1, b2⟩ := p5 k (by omega)
      exact ⟨by omega, b2⟩
  · unfold aUp
    rw [if_neg (show ¬ k = D by omega)]
    by_cases e : l = D
    · rw [if_pos e]; exact (p5 k (by omega)).1
    · rw [if_neg e]; exact p6 k l hk (by omega)
  · unfold aUp at hq hx
    by_cases e : k = D
    · rw [if_pos e, p10] at hx
      cases hx
    · rw [if_neg e] at hq hx
      exact p7 k (by omega) hq x hx
theorem aInv_close (hI : aInv n s g r (D + 1) o q) : aInv n s g r D o q := by
  obtain ⟨L, l1, l2, l3, l4, l5, l6, l7, l8⟩ := hI
  exact ⟨L, l1, l2, l3, l4, fun k hk => l5 k (by omega), fun k l h1 h2 => l6 k l h1 (by omega), fun k hk => l7 k (by omega), l8⟩
/-- the term that has been read -/
theorem aInv_end {o' q' : Nat → Nat} (hI : aInv n s g r 0 o q) (hH : aHol n s g r 0 o' hs) (hn0 : 0 < n) (hn : n ≤ 32) (hN : tNc (aTm n s g r)) : ∃ T : Tm, tWF T ∧ tn T = n ∧ ∀ i, i < n → ts T i = s i ∧ tg T i = g i ∧ tr T i = r i := by
  obtain ⟨L, l1, l2, l3, l4, -, -, -, l8⟩ := hI
  obtain ⟨T, t1, t2, t3, t4, t5⟩ := tm_of_list l3 (l4 hn0) (by omega)
  rw [l1] at t1 t2
  have e : ∀ i, i < n → ts T i = s i ∧ tg T i = g i ∧ tr T i = r i := fun i hi => by
    obtain ⟨a1, a2, a3, -⟩ := t2 i hi
    obtain ⟨b1, b2, b3⟩ := l2 i hi
    exact ⟨a1.trans b1, a2.trans b2, a3.trans b3⟩
  obtain ⟨h1, h2, h3, h4⟩ := hH
  refine ⟨T, ⟨t3, fun i hi => ?_, fun i j hi hj i0 j0 hg => ?_, t4, t5⟩, t1, e⟩
  · rw [t1] at hi
    obtain ⟨a1, a2, a3⟩ := e i hi
    obtain ⟨n1, n2, n3, n4⟩ := hN i hi
    rw [a1, a2, a3, (t2 i hi).2.2.2]
    refine ⟨n1, n2, n3, n4, h2 i hi, fun h => ?_, l8 i hi⟩
    rcases h4 i hi h with z | z
    · exact z
    · omega
  · rw [t1] at hi hj
    obtain ⟨a1, a2, -⟩ := e i hi
    obtain ⟨b1, b2, -⟩ := e j hj
    rw [a1] at i0
    rw [b1] at j0
    rw [a2, b2] at hg
    rw [a1, b1, ← h1 i hi i0, ← h1 j hj j0, hg]
end ZPD
