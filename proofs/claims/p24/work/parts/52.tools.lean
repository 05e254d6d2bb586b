/-! TOOLS for the pictures -/
theorem zbd_s {α β : Type} (a : α) (g : α → Option β) : zbd (some a) g = g a := rfl
theorem zbd2_s {α β γ : Type} (a : α) (b : β) (g : α → β → Option γ) : zbd2 (some (a, b)) g = g a b := rfl
theorem zbd3_s {α β γ δ : Type} (a : α) (b : β) (c : γ) (g : α → β → γ → Option δ) : zbd3 (some (a, b, c)) g = g a b c := rfl
theorem zbd4_s {α β γ δ ε : Type} (a : α) (b : β) (c : γ) (d : δ) (g : α → β → γ → δ → Option ε) : zbd4 (some (a, b, c, d)) g = g a b c d := rfl
theorem zbd5_s {α β γ δ ε ζ : Type} (a : α) (b : β) (c : γ) (d : δ) (e : ε) (g : α → β → γ → δ → ε → Option ζ) : zbd5 (some (a, b, c, d, e)) g = g a b c d e := rfl
theorem zdr_s {K : zK} {a t : Nat} (h : (K a).1 = t) : zdr K (some a) t = some a := by simp [zdr, h]
theorem zrd_s {K : zK} {I : zI} {a j : Nat} (h : j < (K a).2) (h2 : (K a).2 < 2 ^ 31) : zrd K I a (nI j) = some (I a j) := by
  have h1 : (nI j).toNatClampNeg = j := nI_clamp (by omega)
  unfold zrd
  rw [if_pos ⟨nI_pos (by omega), by rw [h1]; exact h⟩, h1]
theorem zrdR_s {K : zK} {R : zR} {a j : Nat} (h : j < (K a).2) (h2 : (K a).2 < 2 ^ 31) : zrdR K R a (nI j) = some (R a j) := by
  have h1 : (nI j).toNatClampNeg = j := nI_clamp (by omega)
  unfold zrdR
  rw [if_pos ⟨nI_pos (by omega), by rw [h1]; exact h⟩, h1]
theorem zwr_s {K : zK} {I : zI} {a j : Nat} {v : Int32} (h : j < (K a).2) (h2 : (K a).2 < 2 ^ 31) : zwr K I a (nI j) v = some (zup I a j v) := by
  have h1 : (nI j).toNatClampNeg = j := nI_clamp (by omega)
  unfold zwr
  rw [if_pos ⟨nI_pos (by omega), by rw [h1]; exact h⟩, h1]
theorem zwrZ_s {K : zK} {I : zI} {a j : Nat} {v : Int32} (h : j < (K a).2) (h2 : (K a).2 < 2 ^ 31) (hv : v = 0 ∨ v = 1) : zwrZ K I a (nI j) v = some (zup I a j v) := by
  have h1 : (nI j).toNatClampNeg = j := nI_clamp (by omega)
  unfold zwrZ
  rw [if_pos ⟨⟨nI_pos (by omega), by rw [h1]; exact h⟩, hv⟩, h1]
theorem zwrR_s {K : zK} {R : zR} {a j t : Nat} {v : Option Nat} (h : j < (K a).2) (h2 : (K a).2 < 2 ^ 31) (hv : ∀ b, v = some b → (K b).1 = t) : zwrR K R a (nI j) v t = some (zup R a j v) := by
  have h1 : (nI j).toNatClampNeg = j := nI_clamp (by omega)
  unfold zwrR
  rw [if_pos ⟨⟨nI_pos (by omega), by rw [h1]; exact h⟩, hv⟩, h1]
theorem zcs_n {β : Type} (a : Option β) (g : Nat → Option β) : zcs none a g = a := rfl
theorem zcs_s {β : Type} (x : Nat) (a : Option β) (g : Nat → Option β) : zcs (some x) a g = g x := rfl
theorem zup_row {α : Type} (f : Nat → Nat → α) (a k : Nat) (v : α) (j : Nat) : zup f a k v a j = if j = k then v else f a j := by
  by_cases h : j = k
  · subst h; simp [zup]
  · simp [zup, h]
/-- ints of the program and their numbers -/
theorem nI_lit (n : Nat) : (OfNat.ofNat n : Int32) = nI n := rfl
theorem nI_sub {a b : Nat} (h : b ≤ a) : nI a - nI b = nI (a - b) := by
  obtain ⟨c, rfl⟩ := Nat.exists_eq_add_of_le h
  rw [Nat.add_sub_cancel_left, ← nI_add]
  show nI b + nI c - nI b = nI c
  rw [Int32.add_comm, Int32.add_sub_cancel]
theorem nI_inj {a b : Nat} (ha : a < 2 ^ 31) (hb : b < 2 ^ 31) (h : nI a = nI b) : a = b := (nI_eq ha hb).mp h
theorem zo_eq (F : Nat) (K : zK) (I : zI) (R : zR) (x g : Int32) : f_X6_outside F K I R x g = some (if 0 ≤ x ∧ x ≤ g then 0 else 1) := by
  unfold f_X6_outside f_X6_outside_9
  by_cases h1 : x < 0
  · rw [if_pos h1, if_neg (fun h => absurd h.1 (Int32.not_le.mpr h1))]
  · rw [if_neg h1]
    by_cases h2 : x ≤ g
    · rw [if_pos h2, if_pos ⟨Int32.not_lt.mp h1, h2⟩]
    · rw [if_neg h2, if_neg (fun h => h2 h.2)]
theorem zi_eq (F : Nat) (K : zK) (I : zI) (R : zR) (x l g : Int32) : f_X7_in F K I R x l g = some (if l ≤ x ∧ x ≤ g then 1 else 0) := by
  unfold f_X7_in
  by_cases h1 : x < l
  · rw [if_pos h1, if_neg (fun h => absurd h.1 (Int32.not_le.mpr h1))]
  · rw [if_neg h1]
    by_cases h2 : g < x
    · rw [if_pos h2, if_neg (fun h => absurd h.2 (Int32.not_le.mpr h2))]
    · rw [if_neg h2, if_pos ⟨Int32.not_lt.mp h1, Int32.not_lt.mp h2⟩]
theorem zo_0 {F : Nat} {K : zK} {I : zI} {R : zR} {x g : Int32} (h : 0 ≤ x ∧ x ≤ g) : f_X6_outside F K I R x g = some 0 := by rw [zo_eq, if_pos h]
theorem zo_1 {F : Nat} {K : zK} {I : zI} {R : zR} {x g : Int32} (h : ¬ (0 ≤ x ∧ x ≤ g)) : f_X6_outside F K I R x g = some 1 := by rw [zo_eq, if_neg h]
theorem zi_1 {F : Nat} {K : zK} {I : zI} {R : zR} {x l g : Int32} (h : l ≤ x ∧ x ≤ g) : f_X7_in F K I R x l g = some 1 := by rw [zi_eq, if_pos h]
theorem zi_0 {F : Nat} {K : zK} {I : zI} {R : zR} {x l g : Int32} (h : ¬ (l ≤ x ∧ x ≤ g)) : f_X7_in F K I R x l g = some 0 := by rw [zi_eq, if_neg h]
theorem zKm_at (a : Nat) (h : 89 ≤ a) : zKm a = zKt a := if_neg (by omega)
/-! what the relation needs of the heap: which cells it speaks of -/
def zHs (b : Nat) : Prop := b = 2 ∨ zHa b
theorem zTc_keep {K K' : zK} {I I' : zI} {R R' : zR} {t : Nat} {T : Tm} (h : zTc K I R t T) (hk : ∀ b, t ≤ b → b < t + 4 → K' b = K b ∧ I' b = I b ∧ R' b = R b) : zTc K' I' R' t T := by
  obtain ⟨h1, h2, h3, h4, h5, h6, h7, h8, h9⟩ := h
  have e0 := hk t (by omega) (by omega)
  have e1 := hk (t + 1) (by omega) (by omega)
  have e2 := hk (t + 2) (by omega) (by omega)
  have e3 := hk (t + 3) (by omega) (by omega)
  refine ⟨by rw [e0.1]; exact h1, by rw [e1.1]; exact h2, by rw [e2.1]; exact h3, by rw [e3.1]; exact h4, by rw [e0.2.2]; exact h5, by rw [e0.2.2]; exact h6, by rw [e0.2.2]; exact h7, by rw [e0.2.1]; exact h8, fun i hi => ?_⟩
  rw [e1.2.1, e2.2.1, e3.2.1]
  exact h9 i hi
theorem zTm_keep {P P' : Nat → Int32} {o o' : Nat} {T : Tm} (h : zTm P o T) (hp : ∀ q, q < 97 → P' (o' + q) = P (o + q)) (hn : tn T ≤ 32) : zTm P' o' T := by
  obtain ⟨h1, h2⟩ := h
  refine ⟨by have := hp 0 (by omega); rw [Nat.add_zero, Nat.add_zero] at this; rw [this]; exact h1, fun i hi => ?_⟩
  have e1 := hp (1 + 3 * i) (by omega)
  have e2 := hp (2 + 3 * i) (by omega)
  have e3 := hp (3 + 3 * i) (by omega)
  simp only [← Nat.add_assoc] at e1 e2 e3
  rw [e1, e2, e3]
  exact h2 i hi
theorem zRg_keep {K K' : zK} {I I' : zI} {R R' : zR} {n n' : Nat} {x : Option Nat} {P P' : Nat → Int32} {o o' : Nat} (h : zRg K I R n x P o) (hn : n ≤ n') (hk : ∀ b, 92 ≤ b → b < n → K' b = K b ∧ I' b = I b ∧ R' b = R b) (hp : ∀ q, q < 97 → P' (o' + q) = P (o + q)) : zRg K' I' R' n' x P' o' := by
  cases x with
  | none =>
    have e := hp 0 (by omega)
    rw [Nat.add_zero, Nat.add_zero] at e
    show P' o' = 0
    rw [e]; exact h
  | some t =>
    obtain ⟨h1, h2, T, hT, hc, hm⟩ := h
    exact ⟨h1, by omega, T, hT, zTc_keep hc (fun b g1 g2 => hk b (by omega) (by omega)), zTm_keep hm hp hT.1.2.1⟩
theorem zSt_keep {K K' : zK} {I I' : zI} {R R' : zR} {n n' a a' : Nat} {P P' : Nat → Int32} {o o' : Nat} (h : zSt K I R n a P o) (hn : n ≤ n') (hk : ∀ b, 92 ≤ b → b < n → K' b = K b ∧ I' b = I b ∧ R' b = R b) (hr : ∀ r, r < 8 → R' (a' + 1) r = R (a + 1) r) (hi : ∀ k, k < 4 → I' (a' + 2) k = I (a + 2) k) (hp : ∀ q, q < 780 → P' (o' + q) = P (o + q)) : zSt K' I' R' n' a' P' o' := by
  obtain ⟨h1, h2, h3, h4⟩ := h
  have e : ∀ k, k < 4 → P' (o' + 776 + k) = P (o + 776 + k) := fun k hk => by
    have := hp (776 + k) (by omega)
    simpa only [← Nat.add_assoc] using this
  refine ⟨fun r hr' => ?_, fun k hk' => by rw [hi k hk', e k hk']; exact h2 k hk', fun k hk' => by rw [e k (by omega)]; exact h3 k hk', fun k hk' => by rw [e k hk']; exact h4 k hk'⟩
  rw [hr r hr']
  refine zRg_keep (h1 r hr') hn hk (fun q hq => ?_)
  have := hp (97 * r + q) (by omega)
  simpa only [← Nat.add_assoc] using this
/-- nothing that the relation speaks of has changed but what is said anew: bytes, text, fault -/
theorem zSim_keep {k k' : Nat} {K K' : zK} {I I' : zI} {R R' : zR} {n n' : Nat} {KM : zK} {J J' : zI} {RM : zR} (h : zSim k K I R n KM J RM) (hn : n ≤ n') (hK : ∀ b, b < n → K' b = K b) (hK2 : ∀ b, n' ≤ b → K' b = (0, 0))
    (hI : ∀ b, 92 ≤ b → b < n → I' b = I b ∧ R' b = R b) (hfin : ∀ a k, zFin a k → R' a k = R a k) (hreg : ∀ a, zHs a → ∀ r, r < 8 → R' (a + 1) r = R (a + 1) r) (hset : ∀ a, zHs a → ∀ k, k < 4 → I' (a + 2) k = I (a + 2) k) (hpast : ∀ j, j < 6 → R' 5 j = R 5 j) (hrem : I' 0 5 = I 0 5)
    (hP : ∀ q, q < 5460 → J' 90 q = J 90 q) (hremJ : J' 89 1 = J 89 1)
    (htext : ∃ b, b ≤ 80 ∧ I' 0 1 = nI b ∧ J' 89 3 = nI b ∧ ∀ i, i < b → I' 1 i = J' 91 i) (hfault : I' 0 2 = J' 89 4) : zSim k' K' I' R' n' KM J' RM := by
  obtain ⟨⟨c1, c2, c3, c4, c5, c6, c7⟩, -, -, hst, hh, hh1, hh2, hh3, hh4, hh5⟩ := h
  have hk : ∀ b, 92 ≤ b → b < n → K' b = K b ∧ I' b = I b ∧ R' b = R b := fun b g1 g2 => ⟨hK b g2, hI b g1 g2⟩
  refine ⟨⟨by omega, fun a ha => by rw [hK a (by omega)]; exact c2 a ha, fun a h1 h2 => by rw [hK a (by omega)]; exact c3 a h1 h2, hK2, fun a k hz => by rw [hfin a k hz]; exact c5 a k hz, c6, c7⟩, htext, hfault, ?_, hh, hh1, by rw [hrem]; exact hh2, by rw [hremJ]; exact hh3, fun j hj => ?_, fun i j hi hj => by rw [hpast i hi, hpast j hj]; exact hh5 i j hi hj⟩
  · exact zSt_keep hst hn hk (hreg 2 (Or.inl rfl)) (hset 2 (Or.inl rfl)) (fun q hq => hP _ (by omega))
  · obtain ⟨a, ha, hz, hs⟩ := hh4 j hj
    refine ⟨a, by rw [hpast j hj]; exact ha, hz, fun hlt => ?_⟩
    exact zSt_keep (hs hlt) hn hk (hreg a (Or.inr hz)) (hset a (Or.inr hz)) (fun q hq => hP _ (by omega))
