/-! TERMS on both sides: c nodes from i on are the same as c nodes from j on -/
def tSame (T : Tm) (i : Nat) (U : Tm) (j c : Nat) : Prop := ∀ k, k < c → ts T (i + k) = ts U (j + k) ∧ tg T (i + k) = tg U (j + k) ∧ tr T (i + k) = tr U (j + k)
section ZSM
variable {F : Nat} {J : zI} {RM : zR}
theorem same6 (hR0 : RM 89 0 = some 90) {o i q j c : Nat} (h1 : o + 1 + 3 * i + 3 * c ≤ 5751) (h2 : q + 1 + 3 * j + 3 * c ≤ 5751) : ∀ (d x t : Nat), x + d = 3 * c → d < t → ∃ r : Int32, f_X7_isSame_6 F zKm J RM 89 t (nI o) (nI i) (nI q) (nI j) (nI c) 1 (nI x) = some r ∧ ((r = 1 ∧ ∀ y, x ≤ y → y < 3 * c → J 90 (o + 1 + 3 * i + y) = J 90 (q + 1 + 3 * j + y)) ∨ (r = 0 ∧ ¬ ∀ y, x ≤ y → y < 3 * c → J 90 (o + 1 + 3 * i + y) = J 90 (q + 1 + 3 * j + y))) := by
  intro d
  induction d with
  | zero =>
    intro x t hx ht
    obtain ⟨t, rfl⟩ : ∃ u, t = u + 1 := ⟨t - 1, by omega⟩
    refine ⟨1, ?_, Or.inl ⟨rfl, fun y g1 g2 => by omega⟩⟩
    show g_X7_isSame_6 F zKm J RM 89 _ (nI o) (nI i) (nI q) (nI j) (nI c) 1 (nI x) = _
    unfold g_X7_isSame_6
    rw [show (3 : Int32) = nI 3 from rfl, nI_mul, if_pos (nI_le (by omega) (by omega)), if_pos (Or.inr rfl)]
  | succ d ih =>
    intro x t hx ht
    obtain ⟨t, rfl⟩ : ∃ u, t = u + 1 := ⟨t - 1, by omega⟩
    obtain ⟨r, e, hr⟩ := ih (x + 1) t (by omega) (by omega)
    have hgo : ∀ s : Int32, g_X7_isSame_6 F zKm J RM 89 (f_X7_isSame_6 F zKm J RM 89 t) (nI o) (nI i) (nI q) (nI j) (nI c) 1 (nI x) = if J 90 (o + 1 + 3 * i + x) = J 90 (q + 1 + 3 * j + x) then f_X7_isSame_6 F zKm J RM 89 t (nI o) (nI i) (nI q) (nI j) (nI c) 1 (nI (x + 1)) else f_X7_isSame_6 F zKm J RM 89 t (nI o) (nI i) (nI q) (nI j) (nI c) 0 (nI (x + 1)) := by
      intro _
      unfold g_X7_isSame_6 f_X7_isSame_59
      rw [show (3 : Int32) = nI 3 from rfl, nI_mul, if_neg (nI_ge (by omega) (by omega)), if_neg (by decide), hR0, zbd_s, zd91, zbd_s, show (1 : Int32) = nI 1 from rfl, nI_add, nI_mul, nI_add, nI_add, zrd_s (by rw [zKm91]; show o + 1 + 3 * i + x < 5751; omega) (by decide), zbd_s, zbd_s, zd91, zbd_s, nI_add, nI_mul, nI_add, nI_add, zrd_s (by rw [zKm91]; show q + 1 + 3 * j + x < 5751; omega) (by decide), zbd_s, nI_add]
    by_cases h0 : J 90 (o + 1 + 3 * i + x) = J 90 (q + 1 + 3 * j + x)
    · refine ⟨r, ?_, ?_⟩
      · show g_X7_isSame_6 F zKm J RM 89 _ (nI o) (nI i) (nI q) (nI j) (nI c) 1 (nI x) = _
        rw [hgo 0, if_pos h0]
        exact e
      · rcases hr with ⟨a, b⟩ | ⟨a, b⟩
        · refine Or.inl ⟨a, fun y g1 g2 => ?_⟩
          by_cases hy : y = x
          · rw [hy]; exact h0
          · exact b y (by omega) g2
        · exact Or.inr ⟨a, fun g => b (fun y g1 g2 => g y (by omega) g2)⟩
    · refine ⟨0, ?_, Or.inr ⟨rfl, fun g => h0 (g x (Nat.le_refl _) (by omega))⟩⟩
      show g_X7_isSame_6 F zKm J RM 89 _ (nI o) (nI i) (nI q) (nI j) (nI c) 1 (nI x) = _
      rw [hgo 0, if_neg h0]
      obtain ⟨t, rfl⟩ : ∃ u, t = u + 1 := ⟨t - 1, by omega⟩
      show g_X7_isSame_6 F zKm J RM 89 _ (nI o) (nI i) (nI q) (nI j) (nI c) 0 (nI (x + 1)) = _
      unfold g_X7_isSame_6
      rw [show (3 : Int32) = nI 3 from rfl, nI_mul]
      by_cases h3 : nI (3 * c) ≤ nI (x + 1)
      · rw [if_pos h3, if_pos (Or.inl rfl)]
      · rw [if_neg h3, if_pos rfl, if_pos (Or.inl rfl)]
theorem X7_isSame (hR0 : RM 89 0 = some 90) (hF : 200 ≤ F) {o i q j c : Nat} {T U : Tm} (h1 : o + 97 ≤ 5751) (h2 : q + 97 ≤ 5751) (hT : tWF T) (hU : tWF U) (hTm : zTm (J 90) o T) (hUm : zTm (J 90) q U) (hc : i + c ≤ tn T) (hc2 : j + c ≤ tn U) : ∃ r : Int32, f_X7_isSame F zKm J RM 89 (nI o) (nI i) (nI q) (nI j) (nI c) = some r ∧ ((r = 1 ∧ tSame T i U j c) ∨ (r = 0 ∧ ¬ tSame T i U j c)) := by
  have hn := hT.1.2.1
  have hm := hU.1.2.1
  obtain ⟨r, e, hr⟩ := same6 (F := F) (J := J) hR0 (o := o) (i := i) (q := q) (j := j) (c := c) (by omega) (by omega) (3 * c) 0 F (by omega) (by omega)
  have heq : (∀ y, 0 ≤ y → y < 3 * c → J 90 (o + 1 + 3 * i + y) = J 90 (q + 1 + 3 * j + y)) ↔ tSame T i U j c := by
    constructor
    · intro g k hk
      obtain ⟨a1, a2, a3⟩ := hTm.2 (i + k) (by omega)
      obtain ⟨b1, b2, b3⟩ := hUm.2 (j + k) (by omega)
      obtain ⟨n1, n2, n3, n4, -⟩ := hT.2.1 (i + k) (by omega)
      obtain ⟨m1, m2, m3, m4, -⟩ := hU.2.1 (j + k) (by omega)
      have g1 := g (3 * k) (Nat.zero_le _) (by omega)
      have g2 := g (3 * k + 1) (Nat.zero_le _) (by omega)
      have g3 := g (3 * k + 2) (Nat.zero_le _) (by omega)
      rw [show o + 1 + 3 * i + 3 * k = o + 1 + 3 * (i + k) from by omega, show q + 1 + 3 * j + 3 * k = q + 1 + 3 * (j + k) from by omega, a1, b1] at g1
      rw [show o + 1 + 3 * i + (3 * k + 1) = o + 2 + 3 * (i + k) from by omega, show q + 1 + 3 * j + (3 * k + 1) = q + 2 + 3 * (j + k) from by omega, a2, b2] at g2
      rw [show o + 1 + 3 * i + (3 * k + 2) = o + 3 + 3 * (i + k) from by omega, show q + 1 + 3 * j + (3 * k + 2) = q + 3 + 3 * (j + k) from by omega, a3, b3] at g3
      have t1 : tg T (i + k) ≤ 12 := by
        by_cases h0 : ts T (i + k) = 0
        · exact n3 h0
        · have := n4 h0; omega
      have t2 : tg U (j + k) ≤ 12 := by
        by_cases h0 : ts U (j + k) = 0
        · exact m3 h0
        · have := m4 h0; omega
      exact ⟨nI_inj (by omega) (by omega) g1, nI_inj (by omega) (by omega) g2, nI_inj (by omega) (by omega) g3⟩
    · intro g y _ hy
      obtain ⟨k, hk⟩ : ∃ k, k = y / 3 := ⟨_, rfl⟩
      obtain ⟨a1, a2, a3⟩ := hTm.2 (i + k) (by omega)
      obtain ⟨b1, b2, b3⟩ := hUm.2 (j + k) (by omega)
      obtain ⟨g1, g2, g3⟩ := g k (by omega)
      have h3 : y = 3 * k ∨ y = 3 * k + 1 ∨ y = 3 * k + 2 := by omega
      rcases h3 with h3 | h3 | h3
      · rw [show o + 1 + 3 * i + y = o + 1 + 3 * (i + k) from by omega, show q + 1 + 3 * j + y = q + 1 + 3 * (j + k) from by omega, a1, b1, g1]
      · rw [show o + 1 + 3 * i + y = o + 2 + 3 * (i + k) from by omega, show q + 1 + 3 * j + y = q + 2 + 3 * (j + k) from by omega, a2, b2, g2]
      · rw [show o + 1 + 3 * i + y = o + 3 + 3 * (i + k) from by omega, show q + 1 + 3 * j + y = q + 3 + 3 * (j + k) from by omega, a3, b3, g3]
  refine ⟨r, e, ?_⟩
  rcases hr with ⟨a, b⟩ | ⟨a, b⟩
  · exact Or.inl ⟨a, heq.mp b⟩
  · exact Or.inr ⟨a, fun g => b (heq.mpr g)⟩
end ZSM
theorem tcode_inj {T U : Tm} {i j : Nat} (hT : tNd T) (hU : tNd U) (hi : i < tn T) (hj : j < tn U) : tcode T i = tcode U j ↔ ts T i = ts U j ∧ tg T i = tg U j ∧ tr T i = tr U j := by
  obtain ⟨a1, a2, a3, a4, a5⟩ := tcode_lt hT hi
  obtain ⟨b1, b2, b3, b4, b5⟩ := tcode_lt hU hj
  constructor
  · intro h
    rw [← a2, ← a4, ← a5, ← b2, ← b4, ← b5, h]
    exact ⟨rfl, rfl, rfl⟩
  · rintro ⟨h1, h2, h3⟩
    unfold tcode
    rw [h1, h2, h3]
section ZSN
variable {F : Nat} {K : zK} {I : zI} {R : zR}
theorem cmpNodes35 {a b i j c : Nat} {T U : Tm} (h : zTc K I R a T) (g : zTc K I R b U) (hT : tWF T) (hU : tWF U) (hc : i + c ≤ tn T) (hc2 : j + c ≤ tn U) : ∀ (d x t : Nat), x + d = c → d < t → ∃ r : Int32, f_X5_compareNodes_35 F K I R a t (nI i) (some b) (nI j) (nI c) (nI x) = some r ∧ ((r = 0 ∧ ∀ k, x ≤ k → k < c → tcode T (i + k) = tcode U (j + k)) ∨ (r ≠ 0 ∧ ¬ ∀ k, x ≤ k → k < c → tcode T (i + k) = tcode U (j + k))) := by
  obtain ⟨h1, h2, h3, h4, h5, h6, h7, h8, h9⟩ := h
  obtain ⟨g1, g2, g3, g4, g5, g6, g7, g8, g9⟩ := g
  have hn := hT.1.2.1
  have hm := hU.1.2.1
  intro d
  induction d with
  | zero =>
    intro x t hx ht
    obtain ⟨t, rfl⟩ : ∃ u, t = u + 1 := ⟨t - 1, by omega⟩
    refine ⟨0, ?_, Or.inl ⟨rfl, fun k k1 k2 => by omega⟩⟩
    show g_X5_compareNodes_35 F K I R a _ (nI i) (some b) (nI j) (nI c) (nI x) = _
    unfold g_X5_compareNodes_35
    rw [if_pos (nI_le (by omega) (by omega))]
  | succ d ih =>
    intro x t hx ht
    obtain ⟨t, rfl⟩ : ∃ u, t = u + 1 := ⟨t - 1, by omega⟩
    obtain ⟨r, e, hr⟩ := ih (x + 1) t (by omega) (by omega)
    obtain ⟨a1, -⟩ := tcode_lt hT.2.1 (show i + x < tn T by omega)
    obtain ⟨b1, -⟩ := tcode_lt hU.2.1 (show j + x < tn U by omega)
    have hgo : g_X5_compareNodes_35 F K I R a (f_X5_compareNodes_35 F K I R a t) (nI i) (some b) (nI j) (nI c) (nI x) = if nI (tcode T (i + x)) = nI (tcode U (j + x)) then f_X5_compareNodes_35 F K I R a t (nI i) (some b) (nI j) (nI c) (nI (x + 1)) else if nI (tcode U (j + x)) ≤ nI (tcode T (i + x)) then some 1 else some (-1) := by
      unfold g_X5_compareNodes_35
      rw [if_neg (nI_ge (by omega) (by omega)), h5, zbd_s, zdr_s (t := 1) (by rw [h2]), zbd_s, nI_add, zrd_s (by rw [h2]; show i + x < 32; omega) (by rw [h2]; decide), zbd_s, zdr_s (t := 15) (by rw [g1]), zbd_s, g5, zbd_s, zdr_s (t := 1) (by rw [g2]), zbd_s, nI_add, zrd_s (by rw [g2]; show j + x < 32; omega) (by rw [g2]; decide), zbd_s, (h9 (i + x) (by omega)).1, (g9 (j + x) (by omega)).1, nI_1]
    by_cases h0 : tcode T (i + x) = tcode U (j + x)
    · refine ⟨r, ?_, ?_⟩
      · show g_X5_compareNodes_35 F K I R a _ (nI i) (some b) (nI j) (nI c) (nI x) = _
        rw [hgo, if_pos (by rw [h0])]
        exact e
      · rcases hr with ⟨p1, p2⟩ | ⟨p1, p2⟩
        · refine Or.inl ⟨p1, fun k k1 k2 => ?_⟩
          by_cases hk : k = x
          · rw [hk]; exact h0
          · exact p2 k (by omega) k2
        · exact Or.inr ⟨p1, fun q => p2 (fun k k1 k2 => q k (by omega) k2)⟩
    · have hne : ¬ ∀ k, x ≤ k → k < c → tcode T (i + k) = tcode U (j + k) := fun q => h0 (q x (Nat.le_refl _) (by omega))
      have hI : ¬ nI (tcode T (i + x)) = nI (tcode U (j + x)) := fun e => h0 (nI_inj (by omega) (by omega) e)
      by_cases h10 : nI (tcode U (j + x)) ≤ nI (tcode T (i + x))
      · refine ⟨1, ?_, Or.inr ⟨by decide, hne⟩⟩
        show g_X5_compareNodes_35 F K I R a _ (nI i) (some b) (nI j) (nI c) (nI x) = _
        rw [hgo, if_neg hI, if_pos h10]
      · refine ⟨-1, ?_, Or.inr ⟨by decide, hne⟩⟩
        show g_X5_compareNodes_35 F K I R a _ (nI i) (some b) (nI j) (nI c) (nI x) = _
        rw [hgo, if_neg hI, if_neg h10]
theorem X5_compareNodes (hF : 100 ≤ F) {a b i j c : Nat} {T U : Tm} (h : zTc K I R a T) (g : zTc K I R b U) (hT : tWF T) (hU : tWF U) (hc : i + c ≤ tn T) (hc2 : j + c ≤ tn U) : ∃ r : Int32, f_X5_compareNodes F K I R a (nI i) (some b) (nI j) (nI c) = some r ∧ (r = 0 ↔ tSame T i U j c) := by
  have hn := hT.1.2.1
  have hm := hU.1.2.1
  obtain ⟨r, e, hr⟩ := cmpNodes35 (F := F) h g hT hU hc hc2 c 0 F (by omega) (by omega)
  refine ⟨r, ?_, ?_⟩
  · unfold f_X5_compareNodes
    rw [if_neg (nI_pos (by omega)), h.2.2.2.2.2.2.2.1, nI_sub (by omega), if_neg (Int32.not_lt.mpr (nI_le (by omega) (by omega))), if_neg (nI_pos (by omega)), zdr_s (t := 15) (by rw [g.1]), zbd_s, g.2.2.2.2.2.2.2.1, nI_sub (by omega), if_pos (nI_le (by omega) (by omega))]
    exact e
  · have heq : (∀ k, 0 ≤ k → k < c → tcode T (i + k) = tcode U (j + k)) ↔ tSame T i U j c := by
      constructor
      · intro q k hk
        exact (tcode_inj hT.2.1 hU.2.1 (by omega) (by omega)).mp (q k (Nat.zero_le _) hk)
      · intro q k _ hk
        exact (tcode_inj hT.2.1 hU.2.1 (by omega) (by omega)).mpr (q k hk)
    rcases hr with ⟨p1, p2⟩ | ⟨p1, p2⟩
    · exact ⟨fun _ => heq.mp p2, fun _ => p1⟩
    · exact ⟨fun q => absurd q p1, fun q => absurd (heq.mpr q) p2⟩
end ZSN
