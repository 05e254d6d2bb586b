/-! JOINING: what both sides hold under way -/
def vOk (v : zNd) : Prop := v.1 ≤ 3 ∧ v.2.2.length ≤ 8 ∧ (v.1 = 0 → v.2.1 ≤ 12) ∧ (v.1 ≠ 0 → v.2.1 ≤ 9) ∧ (v.1 = 1 ∨ v.1 = 3 → v.2.2.length = 0) ∧ (v.1 = 2 → 1 ≤ v.2.2.length)
/-- the nodes that have come, on both sides -/
def zPt (I J : zI) (p to : Nat) (L : List zNd) : Prop := L.length ≤ 32 ∧ I p 3 = nI L.length ∧ J 90 to = nI L.length ∧ ∀ (i : Nat) (v : zNd), L[i]? = some v → I (p + 1) i = nI (v.1 * 256 + v.2.1 * 16 + v.2.2.length) ∧ J 90 (to + 1 + 3 * i) = nI v.1 ∧ J 90 (to + 2 + 3 * i) = nI v.2.1 ∧ J 90 (to + 3 + 3 * i) = nI v.2.2.length
def zLk (I : zI) (L : List zNd) (H : Nat) : Prop := okL L ∧ (∀ (i : Nat) (v : zNd), L[i]? = some v → vOk v ∧ (v.1 ≠ 0 → v.2.1 < H ∧ I 34 v.2.1 = nI v.1)) ∧ ∀ i, i < L.length → dpL L i ≤ 7
def zJc (K : zK) (I : zI) (R : zR) (J : zI) (p to : Nat) : Prop := zJk K R ∧ R 21 4 = some p ∧ (K p = (15, 0) ∧ K (p + 1) = (1, 32)) ∧ R p 0 = some (p + 1) ∧ 5460 ≤ to ∧ to + 97 ≤ 5751 ∧ 92 ≤ p ∧ I 21 0 = (if J 90 776 = 1 then 1 else 0) ∧ I 21 1 = (if J 90 777 = 1 then 1 else 0)
def zJr (K : zK) (I : zI) (R : zR) (J : zI) (p : Nat) (w : Nat × Nat) (to t a u b : Nat) (T U : Tm) (L : List zNd) (H : Nat) : Prop := zJc K I R J p to ∧ (R 21 2 = some t ∧ R 21 3 = some u) ∧ zTr K I R J p w to t a T ∧ zTr K I R J p w to u b U ∧ zTb K I R J p w to H ∧ zPt I J p to L ∧ zLk I L H ∧ (∀ y, y < tn T → J 92 y = nI (tsp T y)) ∧ ∀ y, y < tn U → J 93 y = nI (tsp U y)
section ZJR
variable {K : zK} {I I' : zI} {R R' : zR} {J J' : zI} {p to t a u b : Nat} {w : Nat × Nat} {T U : Tm} {L : List zNd} {H H' : Nat}
theorem zJc_keep (h : zJc K I R J p to) (hC : zJfC p I I' R R') (hJ : zJfJ to J J') : zJc K I' R' J' p to := by
  obtain ⟨⟨c1, c2, c3, c4, c5, c6, c7, c8, c9⟩, h2, h3, h4, h5, h6, h7, h8, h9⟩ := h
  have e : ∀ k, R' 21 k = R 21 k := fun k => by rw [hC.2.2 21 (by decide) (by decide)]
  refine ⟨⟨c1, c2, by rw [e]; exact c3, by rw [e]; exact c4, by rw [e]; exact c5, by rw [e]; exact c6, by rw [e]; exact c7, by rw [e]; exact c8, by rw [e]; exact c9⟩, by rw [e]; exact h2, h3, by rw [hC.2.2 p (by omega) (by omega)]; exact h4, h5, h6, h7, by rw [hC.2.1 0 (by decide), hJ.2.2 776 (by omega)]; exact h8, by rw [hC.2.1 1 (by decide), hJ.2.2 777 (by omega)]; exact h9⟩
/-- nothing but the stack and the frames -/
theorem zJr_keep (h : zJr K I R J p w to t a u b T U L H) (hC : zJfC p I I' R R') (hJ : zJfJ to J J') (hTb : zTb K I' R' J' p w to H') (hH : H ≤ H') (h35 : ∀ g, g < H → I' 34 g = I 34 g) (hp : I' p = I p ∧ I' (p + 1) = I (p + 1)) (h91 : J' 90 = J 90) : zJr K I' R' J' p w to t a u b T U L H' := by
  obtain ⟨h1, h2, h3, h4, h5, ⟨q1, q2, q3, q4⟩, ⟨l1, l2, l3⟩, h8, h9⟩ := h
  have e : ∀ k, R' 21 k = R 21 k := fun k => by rw [hC.2.2 21 (by decide) (by decide)]
  refine ⟨zJc_keep h1 hC hJ, ⟨by rw [e]; exact h2.1, by rw [e]; exact h2.2⟩, zTr_keep h3 hC hJ, zTr_keep h4 hC hJ, hTb, ⟨q1, by rw [hp.1]; exact q2, by rw [h91]; exact q3, fun i v hv => ?_⟩, ⟨l1, fun i v hv => ⟨(l2 i v hv).1, fun h0 => ?_⟩, l3⟩, fun y hy => by rw [hJ.1 92 (by decide) (by decide) (by decide)]; exact h8 y hy, fun y hy => by rw [hJ.1 93 (by decide) (by decide) (by decide)]; exact h9 y hy⟩
  · rw [hp.2, h91]; exact q4 i v hv
  · obtain ⟨a1, a2⟩ := (l2 i v hv).2 h0
    exact ⟨by omega, by rw [h35 _ a1]; exact a2⟩
theorem zTb_keep (h : zTb K I R J p w to H) (hC : zJfC p I I' R R') (hJ : zJfJ to J J') (h1 : ∀ b, b = 34 ∨ b = 36 ∨ b = 37 ∨ b = 39 ∨ b = 40 → I' b = I b) (h2 : R' 35 = R 35 ∧ R' 38 = R 38) (h3 : ∀ b, 100 ≤ b → b ≤ 106 → J' b = J b) (h5 : I' 21 5 = I 21 5) (h16 : J' 89 16 = J 89 16) : zTb K I' R' J' p w to H := by
  obtain ⟨a1, a2, a3, a4⟩ := h
  exact ⟨a1, by rw [h5]; exact a2, by rw [h16]; exact a3, fun h hh => zEnt_keep (a4 h hh) hC hJ (fun b hb => by rw [h1 b hb]) ⟨by rw [h2.1], by rw [h2.2]⟩ (fun b b1 b2 => by rw [h3 b b1 b2])⟩
/-- the stack alone changes -/
theorem zJr_stack {s : Nat} (h : zJr K I R J p w to t a u b T U L H) (hJ : zFr s J J') : zJr K I R J' p w to t a u b T U L H ∧ zJfJ to J J' := by
  have f : zJfJ to J J' := ⟨fun b b1 b2 b3 => hJ.1 b b1 (by omega), fun k _ hk => hJ.2.1 k hk, fun q _ => by rw [hJ.1 90 (by decide) (by decide)]⟩
  exact ⟨zJr_keep h (zJfC_refl _ _ _) f (zTb_keep h.2.2.2.2.1 (zJfC_refl _ _ _) f (fun _ _ => rfl) ⟨rfl, rfl⟩ (fun b b1 b2 => hJ.1 b (by omega) (by omega)) rfl (hJ.2.1 16 (by decide))) (Nat.le_refl _) (fun _ _ => rfl) ⟨rfl, rfl⟩ (hJ.1 90 (by decide) (by decide)), f⟩
/-- the reference's page with one node more -/
def zWr (J : zI) (to n s g r : Nat) : zI := zup (zup (zup J 90 (to + 1 + 3 * n) (nI s)) 90 (to + 2 + 3 * n) (nI g)) 90 (to + 3 + 3 * n) (nI r)
def zAp (I : zI) (p n s g r : Nat) : zI := zup (zup I (p + 1) n (nI (s * 256 + g * 16 + r))) p 3 (nI (n + 1))
/-- one node more on both sides; between writing it and counting it the stack may change -/
theorem rel_append {sk : Nat} {v : zNd} {d : Nat} {g : Bool} {s : List (Nat × Bool)} {J1 : zI} (h : zJr K I R J p w to t a u b T U L H) (hn : L.length < 32) (hst : stL L = (d, g) :: s) (hv : okV d g v) (hd : d ≤ 7) (hvo : vOk v) (hh : v.1 ≠ 0 → v.2.1 < H ∧ I 34 v.2.1 = nI v.1) (hJ1 : zFr sk (zWr J to L.length v.1 v.2.1 v.2.2.length) J1) :
    zJr K (zAp I p L.length v.1 v.2.1 v.2.2.length) R (zup J1 90 to (nI (L.length + 1))) p w to t a u b T U (L ++ [v]) H ∧ zJfC p I (zAp I p L.length v.1 v.2.1 v.2.2.length) R R ∧ zJfJ to J (zup J1 90 to (nI (L.length + 1))) := by
  obtain ⟨h1, h2, h3, h4, h5, ⟨q1, q2, q3, q4⟩, ⟨l1, l2, l3⟩, h8, h9⟩ := h
  have hp := h1.2.2.2.2.2.2.1
  have hto := h1.2.2.2.2.2.1
  have fC : zJfC p I (zAp I p L.length v.1 v.2.1 v.2.2.length) R R := by
    refine ⟨fun b a1 a2 a3 a4 a5 a6 a7 a8 => ?_, fun k hk => ?_, fun _ _ _ => rfl⟩
    · unfold zAp; rw [zup_ne _ _ _ a7, zup_ne _ _ _ a8]
    · unfold zAp; rw [zup_nb _ _ _ (by omega), zup_nb _ _ _ (by omega)]
  have e91 : ∀ q, zup J1 90 to (nI (L.length + 1)) 90 q = if q = to then nI (L.length + 1) else if q = to + 3 + 3 * L.length then nI v.2.2.length else if q = to + 2 + 3 * L.length then nI v.2.1 else if q = to + 1 + 3 * L.length then nI v.1 else J 90 q := fun q => by
    rw [zup_row, hJ1.1 90 (by decide) (by decide)]
    unfold zWr
    rw [zup_row, zup_row, zup_row]
  have eb : ∀ b, b ≠ 90 → b ≠ 89 → (b < 107 ∨ 111 < b) → zup J1 90 to (nI (L.length + 1)) b = J b := fun b b1 b2 b3 => by
    rw [zup_ne _ _ _ b1, hJ1.1 b b2 b3]
    unfold zWr
    rw [zup_ne _ _ _ b1, zup_ne _ _ _ b1, zup_ne _ _ _ b1]
  have e90 : ∀ k, k ≠ 29 → zup J1 90 to (nI (L.length + 1)) 89 k = J 89 k := fun k hk => by
    rw [zup_nb _ _ _ (by decide), hJ1.2.1 k hk]
    unfold zWr
    rw [zup_nb _ _ _ (by decide), zup_nb _ _ _ (by decide), zup_nb _ _ _ (by decide)]
  have fJ : zJfJ to J (zup J1 90 to (nI (L.length + 1))) := by
    refine ⟨fun b b1 b2 b3 => eb b b2 b1 (by omega), fun k _ hk => e90 k hk, fun q hq => ?_⟩
    rw [e91, if_neg (by omega), if_neg (by omega), if_neg (by omega), if_neg (by omega)]
  have i35 : zAp I p L.length v.1 v.2.1 v.2.2.length 34 = I 34 := by unfold zAp; rw [zup_ne _ _ _ (by omega), zup_ne _ _ _ (by omega)]
  have ib : ∀ b, b < 92 → zAp I p L.length v.1 v.2.1 v.2.2.length b = I b := fun b hb => by unfold zAp; rw [zup_ne _ _ _ (by omega), zup_ne _ _ _ (by omega)]
  refine ⟨⟨zJc_keep h1 fC fJ, h2, zTr_keep h3 fC fJ, zTr_keep h4 fC fJ, zTb_keep h5 fC fJ (fun b hb => ib b (by omega)) ⟨rfl, rfl⟩ (fun b b1 b2 => eb b (by omega) (by omega) (by omega)) (by rw [ib 21 (by decide)]) (e90 16 (by decide)), ⟨by rw [List.length_append]; exact hn, ?_, ?_, fun i w hw => ?_⟩, ⟨okL_snoc l1 hst hv, fun i w hw => ?_, fun i hi => ?_⟩, fun y hy => by rw [eb 92 (by decide) (by decide) (by decide)]; exact h8 y hy, fun y hy => by rw [eb 93 (by decide) (by decide) (by decide)]; exact h9 y hy⟩, fC, fJ⟩
  · rw [List.length_append]
    unfold zAp
    rw [zup_self]
    rfl
  · rw [List.length_append, e91, if_pos rfl]
    rfl
  · by_cases hi : i < L.length
    · rw [List.getElem?_append_left hi] at hw
      obtain ⟨x1, x2, x3, x4⟩ := q4 i w hw
      rw [e91, e91, e91, if_neg (by omega), if_neg (by omega), if_neg (by omega), if_neg (by omega), if_neg (by omega), if_neg (by omega), if_neg (by omega), if_neg (by omega), if_neg (by omega), if_neg (by omega), if_neg (by omega), if_neg (by omega)]
      refine ⟨?_, x2, x3, x4⟩
      unfold zAp
      rw [zup_nb _ _ _ (by omega), zup_self_ne _ _ _ (by omega)]
      exact x1
    · have hil : i = L.length := by
        by_cases h : i = L.length
        · exact h
        · rw [List.getElem?_eq_none (by simp; omega)] at hw
          cases hw
      subst hil
      rw [List.getElem?_append_right (Nat.le_refl _), Nat.sub_self] at hw
      simp only [List.getElem?_cons_zero, Option.some.injEq] at hw
      subst hw
      refine ⟨?_, ?_, ?_, ?_⟩
      · unfold zAp
        rw [zup_nb _ _ _ (by omega), zup_self]
      · rw [e91, if_neg (by omega), if_neg (by omega), if_neg (by omega), if_pos rfl]
      · rw [e91, if_neg (by omega), if_neg (by omega), if_pos rfl]
      · rw [e91, if_neg (by omega), if_pos rfl]
  · by_cases hi : i < L.length
    · rw [List.getElem?_append_left hi] at hw
      rw [i35]
      exact l2 i w hw
    · have hil : i = L.length := by
        by_cases h : i = L.length
        · exact h
        · rw [List.getElem?_eq_none (by simp; omega)] at hw
          cases hw
      subst hil
      rw [List.getElem?_append_right (Nat.le_refl _), Nat.sub_self] at hw
      simp only [List.getElem?_cons_zero, Option.some.injEq] at hw
      subst hw
      rw [i35]
      exact ⟨hvo, hh⟩
  · rw [List.length_append] at hi
    unfold dpL
    by_cases hil : i < L.length
    · rw [List.take_append_of_le_length (by omega)]
      exact l3 i hil
    · have : i = L.length := by simp only [List.length_cons, List.length_nil] at hi; omega
      subst this
      rw [List.take_append_of_le_length (Nat.le_refl _), List.take_length, hst]
      exact hd
end ZJR
