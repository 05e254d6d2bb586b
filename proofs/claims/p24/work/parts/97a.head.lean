/-! put(): the text is read; the class's head of a node -/
def aTm (n : Nat) (s g r : Nat → Nat) : Tm := (n, s, g, r, fun _ => 1, fun _ => 0)
def aUp (f : Nat → Nat) (k v : Nat) : Nat → Nat := fun j => if j = k then v else f j
def aRn (r : Nat → Nat) (n D : Nat) (o : Nat → Nat) : Nat → Nat := fun j => if j = n then 0 else if 0 < D ∧ j = o (D - 1) then r j + 1 else r j
def aB (X : Nat → Int32) (b i : Nat) : Int32 := if i < b then X i else 0
/-- the class's Reader with its Term at t: nodes, open nodes, sequences, sorts of holes, position -/
def aPc (K : zK) (I : zI) (R : zR) (t b n : Nat) (s g r : Nat → Nat) (D : Nat) (o q hs : Nat → Nat) (p : Nat) : Prop :=
  zTk K I R t (aTm n s g r) ∧ 92 ≤ t ∧ (R 6 0 = some 1 ∧ R 6 4 = some t ∧ R 6 6 = some 12 ∧ R 6 7 = some 13 ∧ R 6 8 = some 14) ∧ (I 6 1 = nI b ∧ I 6 2 = nI p ∧ I 6 5 = nI D) ∧ (∀ k, k < D → I 12 k = nI (o k)) ∧ (∀ k, k < D → I 13 k = nI (q k)) ∧ ∀ h, h < 10 → I 14 h = if hs h = 0 then -1 else nI (hs h)
def aOk (b n : Nat) (s g r : Nat → Nat) (D : Nat) (o q hs : Nat → Nat) (p : Nat) : Prop := n ≤ 32 ∧ D ≤ 8 ∧ b ≤ 80 ∧ p ≤ b ∧ tNc (aTm n s g r) ∧ (∀ k, k < D → o k < n) ∧ (∀ k, k < D → q k ≤ 1) ∧ ∀ h, h < 10 → hs h ≤ 3
/-- a clash of holes -/
def aCl (D : Nat) (q hs : Nat → Nat) (so v : Nat) : Prop := so ≠ 0 ∧ ((hs v ≠ 0 ∧ hs v ≠ so) ∨ (so = 3 ∧ q (D - 1) = 1))
theorem aPrd {a : Nat} (h : 1 ≤ a) : nI a - (1 : Int32) = nI (a - 1) := nI_sub h
section ZPA
variable {F : Nat} {K : zK} {I : zI} {R : zR} {t b n D p : Nat} {s g r o q hs : Nat → Nat}
theorem X2_byteAt (hK : ∀ a, a < 89 → K a = zKt a) (h0 : R 6 0 = some 1) (h1 : I 6 1 = nI b) (hb : b ≤ 80) {i : Nat} (hi : i < 2 ^ 31) : f_X2_byteAt F K I R 6 (nI i) = some (aB (I 1) b i) := by
  have k1 : K 1 = (1, 80) := hK 1 (by decide)
  unfold f_X2_byteAt aB
  rw [if_neg (nI_pos hi), h1]
  by_cases h : i < b
  · rw [if_neg (nI_ge h (by omega)), h0, zbd_s, zdr_s (t := 1) (by rw [k1]), zbd_s, show zln K 1 = nI 80 from by unfold zln; rw [k1]; rfl, if_neg (nI_ge (by omega) (by omega)), zbd_s, zdr_s (t := 1) (by rw [k1]), zbd_s, zrd_s (by rw [k1]; show i < 80; omega) (by rw [k1]; decide), zbd_s, if_pos h]
  · rw [if_pos (nI_le (by omega) hi), if_neg h]
/-- a hole is taken -/
theorem X2_takeHole (hK : ∀ a, a < 89 → K a = zKt a) (hP : aPc K I R t b n s g r D o q hs p) (hA : aOk b n s g r D o q hs p) {v so : Nat} (hv : v ≤ 9) (hso : so = 1 ∨ so = 2 ∨ so = 3) (h3 : so = 3 → 0 < D) : (aCl D q hs so v → f_X2_takeHole F K I R 6 (nI v) (nI so) = some (0, I)) ∧ (¬ aCl D q hs so v → f_X2_takeHole F K I R 6 (nI v) (nI so) = some (1, zup (if so = 3 then zup I 13 (D - 1) 1 else I) 14 v (nI so))) := by
  have k13 : K 13 = (2, 8) := hK 13 (by decide)
  have k14 : K 14 = (1, 10) := hK 14 (by decide)
  obtain ⟨-, -, ⟨r0, r4, r6, r7, r8⟩, ⟨i1, i2, i5⟩, -, c13, c14⟩ := hP
  obtain ⟨a1, a2, a3, a4, a5, a6, a7, a8⟩ := hA
  have e90 : ∀ I' : zI, f_X2_takeHole_90 F K R 6 I' (nI v) (nI so) = some (1, zup I' 14 v (nI so)) := fun I' => by
    unfold f_X2_takeHole_90
    rw [r8, zbd_s, zdr_s (t := 1) (by rw [k14]), zbd_s, zwr_s (by rw [k14]; show v < 10; omega) (by rw [k14]; decide), zbd_s]
  have e38 : f_X2_takeHole_38 F K R 6 I (nI v) (nI so) = if so = 3 ∧ q (D - 1) = 1 then some (0, I) else some (1, zup (if so = 3 then zup I 13 (D - 1) 1 else I) 14 v (nI so)) := by
    unfold f_X2_takeHole_38
    by_cases e3 : so = 3
    · have hD := h3 e3
      have hq := a7 (D - 1) (by omega)
      rw [if_pos ((ni3 (by omega)).mpr e3), i5, if_neg (nI_nle hD (by omega)), r7, zbd_s, zdr_s (t := 2) (by rw [k13]), zbd_s, show zln K 13 = nI 8 from by unfold zln; rw [k13]; rfl, if_neg (fun e => absurd (nI_le (show D ≤ 8 from a2) (by omega)) (Int32.not_le.mpr e)), zbd_s, zdr_s (t := 2) (by rw [k13]), zbd_s, aPrd hD, zrd_s (by rw [k13]; show D - 1 < 8; omega) (by rw [k13]; decide), zbd_s, c13 _ (by omega)]
      by_cases h1 : q (D - 1) = 1
      · rw [if_neg (fun e => by have := (ni0 (by omega)).mp e; omega), if_pos ⟨e3, h1⟩]
      · rw [if_pos ((ni0 (by omega)).mpr (by omega)), zbd_s, zdr_s (t := 2) (by rw [k13]), zbd_s, zwrZ_s (by rw [k13]; show D - 1 < 8; omega) (by rw [k13]; decide) (Or.inr rfl), zbd_s, e90, if_neg (fun e => h1 e.2), if_pos e3]
    · rw [if_neg (fun e => e3 ((ni3 (by omega)).mp e)), e90, if_neg (fun e => e3 e.1), if_neg e3]
  have hh := a8 v (by omega)
  have eT : f_X2_takeHole F K I R 6 (nI v) (nI so) = if hs v = 0 then f_X2_takeHole_38 F K R 6 I (nI v) (nI so) else if hs v = so then f_X2_takeHole_38 F K R 6 I (nI v) (nI so) else some (0, I) := by
    unfold f_X2_takeHole
    rw [r8, zbd_s, zdr_s (t := 1) (by rw [k14]), zbd_s, show zln K 14 = nI 10 from by unfold zln; rw [k14]; rfl, aPrd (by omega), zo_0 (show (0 : Int32) ≤ nI v ∧ nI v ≤ nI (10 - 1) from ⟨nI_pos' (by omega), nI_le (by omega) (by omega)⟩), zbd_s, if_pos rfl, zbd_s, zdr_s (t := 1) (by rw [k14]), zbd_s, zrd_s (by rw [k14]; show v < 10; omega) (by rw [k14]; decide), zbd_s, zbd_s, zdr_s (t := 1) (by rw [k14]), zbd_s, zrd_s (by rw [k14]; show v < 10; omega) (by rw [k14]; decide), zbd_s, c14 v (by omega)]
    by_cases h0 : hs v = 0
    · rw [if_pos h0, if_pos h0, if_pos rfl]
    · rw [if_neg h0, if_neg h0, if_neg (nim1 (by omega))]
      by_cases h1 : hs v = so
      · rw [if_pos h1, if_pos (by rw [h1])]
      · rw [if_neg h1, if_neg (fun e => h1 (nI_inj (by omega) (by omega) e))]
  constructor
  · rintro ⟨-, c | c⟩
    · rw [eT, if_neg c.1, if_neg c.2]
    · rw [eT, e38, if_pos c]
      by_cases h0 : hs v = 0
      · rw [if_pos h0]
      · rw [if_neg h0]
        by_cases h1 : hs v = so
        · rw [if_pos h1]
        · rw [if_neg h1]
  · intro c
    have n2 : ¬ (so = 3 ∧ q (D - 1) = 1) := fun e => c ⟨by omega, Or.inr e⟩
    rw [eT, e38, if_neg n2]
    by_cases h0 : hs v = 0
    · rw [if_pos h0]
    · rw [if_neg h0, if_pos (Classical.byContradiction fun e => c ⟨by omega, Or.inl ⟨h0, e⟩⟩)]
/-- the node is appended and counted -/
theorem X2_209 (hK : ∀ a, a < 89 → K a = zKt a) (hP : aPc K I R t b n s g r D o q hs p) (hA : aOk b n s g r D o q hs p) {v so : Nat} (hv : v ≤ 12) (hso : so ≤ 3) (hn : n < 32) (h8 : 0 < D → r (o (D - 1)) < 8) {x4 : Int32} (hx4 : x4 = if 0 < D then nI (o (D - 1)) else -1) : ∃ I1, f_X2_readHead_209 F K R 6 I x4 (nI v) (nI so) = some (1, I1) ∧ aPc K I1 R t b (n + 1) (aUp s n so) (aUp g n v) (aRn r n D o) D o q hs (p + if so = 3 then 2 else 1) ∧ ∀ x, x ≠ 6 → x ≠ t → x ≠ t + 1 → I1 x = I x := by
  obtain ⟨hT, ht, hR6, ⟨i1, i2, i5⟩, c12, c13, c14⟩ := hP
  have hT0 := hT
  obtain ⟨a1, a2, a3, a4, a5, a6, a7, a8⟩ := hA
  obtain ⟨t1, t2, t3, t4, t5, t6, t7, t8, t9⟩ := hT
  have t8' : I t 3 = nI n := t8
  have k15 : (K t).1 = 15 := by rw [t1]
  obtain ⟨I2, hI2⟩ : ∃ x : zI, x = if 0 < D then zup I (t + 1) (o (D - 1)) (nI (s (o (D - 1)) * 256 + g (o (D - 1)) * 16 + (r (o (D - 1)) + 1))) else I := ⟨_, rfl⟩
  have eC : f_X5_countArgument F K I R t x4 = some I2 := by
    unfold f_X5_countArgument
    rw [hx4, hI2]
    by_cases hD : 0 < D
    · have ho := a6 (D - 1) (by omega)
      have h9 := t9 _ ho
      have hc := tcode_ltc a5 ho
      have har := X5_argumentsOf_k (F := F) hT0 a5 a1 ho
      have h8' := h8 hD
      rw [if_pos hD, if_pos hD, if_neg (nI_pos (by omega)), t8', if_neg (nI_ge ho (by omega)), har, zbd_s, if_neg (show ¬ ((8 : Int32) ≤ nI (tr (aTm n s g r) (o (D - 1)))) from nI_ge (b := 8) h8' (by decide)), t5, zbd_s, zdr_s (t := 1) (by rw [t2]), zbd_s, zrd_s (by rw [t2]; show o (D - 1) < 32; omega) (by rw [t2]; decide), zbd_s, zwr_s (by rw [t2]; show o (D - 1) < 32; omega) (by rw [t2]; decide), zbd_s, h9, nI_1, show tcode (aTm n s g r) (o (D - 1)) + 1 = s (o (D - 1)) * 256 + g (o (D - 1)) * 16 + (r (o (D - 1)) + 1) from by
        unfold tcode
        show s (o (D - 1)) * 256 + g (o (D - 1)) * 16 + r (o (D - 1)) + 1 = _
        omega]
    · rw [if_neg hD, if_neg hD, if_pos (by decide)]
  have f2 : ∀ x, x ≠ t + 1 → I2 x = I x := fun x hx => by
    rw [hI2]
    by_cases hD : 0 < D
    · rw [if_pos hD, zup_ne _ _ _ hx]
    · rw [if_neg hD]
  have eA := X5_append_ok (F := F) (I := I2) (r := 0) t2 t5 (show I2 t 3 = nI n by rw [f2 t (by omega)]; exact t8') hn (show so * 16 + v < 64 by omega) (by decide)
  refine ⟨zup (zup (zup I2 (t + 1) n (nI ((so * 16 + v) * 16 + 0))) t 3 (nI (n + 1))) 6 2 (nI (p + if so = 3 then 2 else 1)), ?_, ?_, fun x x1 x2 x3 => by rw [zup_ne _ _ _ x1, zup_ne _ _ _ x2, zup_ne _ _ _ x3, f2 x x3]⟩
  · unfold f_X2_readHead_209
    have e6 : zup (zup I2 (t + 1) n (nI ((so * 16 + v) * 16 + 0))) t 3 (nI (n + 1)) 6 2 = nI p := by rw [zup_ne _ _ _ (by omega), zup_ne _ _ _ (by omega), f2 6 (by omega)]; exact i2
    rw [hR6.2.1, zbd_s, zdr_s k15, zbd_s, eC, zbd_s, zbd_s, zdr_s k15, zbd_s, nI_shl4or so (by omega) v (by omega), show (0 : Int32) = nI 0 from rfl, eA, zbd2_s, e6]
    by_cases h3 : so = 3
    · rw [if_pos ((ni3 (by omega)).mpr h3), zbd_s, if_pos h3, nl2, nI_add]
    · rw [if_neg (fun e => h3 ((ni3 (by omega)).mp e)), zbd_s, if_neg h3, nI_1]
  · refine ⟨⟨t1, t2, t3, t4, t5, t6, t7, ?_, fun i hi => ?_⟩, ht, hR6, ⟨?_, zup_self _ _ _ _, ?_⟩, fun k hk => ?_, fun k hk => ?_, fun h hh => ?_⟩
    · rw [zup_ne _ _ _ (by omega), zup_self]
      rfl
    · have hi' : i < n + 1 := hi
      rw [zup_ne _ _ _ (by omega), zup_ne _ _ _ (by omega)]
      show _ = nI (aUp s n so i * 256 + aUp g n v i * 16 + aRn r n D o i)
      unfold aUp aRn
      by_cases hin : i = n
      · rw [hin, zup_self, if_pos rfl, if_pos rfl, if_pos rfl]
        congr 1
        omega
      · rw [zup_self_ne _ _ _ hin, if_neg hin, if_neg hin, if_neg hin, hI2]
        have h9 := t9 i (show i < n by omega)
        by_cases hD : 0 < D
        · rw [if_pos hD]
          by_cases ho : i = o (D - 1)
          · rw [ho, zup_self, if_pos ⟨hD, rfl⟩]
          · rw [zup_self_ne _ _ _ ho, if_neg (fun e => ho e.2)]
            exact h9
        · rw [if_neg hD, if_neg (fun e => hD e.1)]
          exact h9
    · rw [zup_self_ne _ _ _ (by decide), zup_ne _ _ _ (by omega), zup_ne _ _ _ (by omega), f2 6 (by omega)]
      exact i1
    · rw [zup_self_ne _ _ _ (by decide), zup_ne _ _ _ (by omega), zup_ne _ _ _ (by omega), f2 6 (by omega)]
      exact i5
    · rw [zup_ne _ _ _ (by decide), zup_ne _ _ _ (by omega), zup_ne _ _ _ (by omega), f2 12 (by omega)]
      exact c12 k hk
    · rw [zup_ne _ _ _ (by decide), zup_ne _ _ _ (by omega), zup_ne _ _ _ (by omega), f2 13 (by omega)]
      exact c13 k hk
    · rw [zup_ne _ _ _ (by decide), zup_ne _ _ _ (by omega), zup_ne _ _ _ (by omega), f2 14 (by omega)]
      exact c14 h hh
end ZPA
