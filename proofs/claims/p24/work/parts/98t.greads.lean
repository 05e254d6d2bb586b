/-! THE GHOST READS a printed term -/
/-- the text at a place -/
def tA (X : Nat → Int32) (b p : Nat) (l : List Nat) : Prop := ∀ (j x : Nat), l[j]? = some x → p + j < b ∧ X (p + j) = nI x
theorem tA_c {X : Nat → Int32} {b p x : Nat} {l : List Nat} (h : tA X b p (x :: l)) : p < b ∧ aBm X b p = nI x ∧ tA X b (p + 1) l := by
  obtain ⟨h1, h2⟩ := h 0 x rfl
  rw [Nat.add_zero] at h1 h2
  refine ⟨h1, by unfold aBm; rw [if_pos h1]; exact h2, fun j y hy => ?_⟩
  rw [show p + 1 + j = p + (j + 1) by omega]
  exact h (j + 1) y hy
theorem tA_a {X : Nat → Int32} {b p : Nat} {l l' : List Nat} (h : tA X b p (l ++ l')) : tA X b p l ∧ tA X b (p + l.length) l' := by
  refine ⟨fun j y hy => h j y ?_, fun j y hy => ?_⟩
  · rw [List.getElem?_append_left (List.getElem?_eq_some_iff.mp hy).1]; exact hy
  · rw [show p + l.length + j = p + (l.length + j) by omega]
    refine h _ y ?_
    rw [List.getElem?_append_right (by omega), Nat.add_sub_cancel_left]; exact hy
theorem dN_li : ∀ {G : aFo}, dN G → ∀ (j : Nat) (v : Nat × Nat), (qLi G)[j]? = some v → v.1 < 3 ∧ v.2 ≤ 3 := by
  intro G
  induction G with
  | leaf _ => intro _ j v h; cases h
  | branch w k r ihk ihr =>
    rintro ⟨⟨h1, h2⟩, h3, h4⟩ j v h
    rw [qLi] at h
    cases j with
    | zero => cases h; exact ⟨h1, h2⟩
    | succ j =>
      rw [List.getElem?_cons_succ] at h
      by_cases c : j < (qLi k).length
      · rw [List.getElem?_append_left c] at h; exact ihk h3 j v h
      · rw [List.getElem?_append_right (by omega)] at h; exact ihr h4 _ v h
abbrev r0f : Nat → Nat := fun _ => 0
def rOk (n : Nat) (s g r : Nat → Nat) : Prop := ∀ i, i < n → s i = 0 ∧ g i ≤ 12 ∧ r i ≤ 8
section ZPT
variable {F : Nat} {J : zI} {RM : zR} {b n D p : Nat} {s g r o : Nat → Nat}
theorem aUp_0 (k : Nat) : aUp r0f k 0 = r0f := by
  funext j
  unfold aUp
  by_cases h : j = k
  · rw [if_pos h]
  · rw [if_neg h]
theorem aUp_self (f : Nat → Nat) (k v : Nat) : aUp f k v k = v := by unfold aUp; rw [if_pos rfl]
theorem aUp_ne (f : Nat → Nat) {k j : Nat} (v : Nat) (h : j ≠ k) : aUp f k v j = f j := by unfold aUp; rw [if_neg h]
theorem aPm_o {o' : Nat → Nat} (h : aPm J b n s g r D o r0f r0f p) (ho : ∀ k, k < D → o' k = o k) : aPm J b n s g r D o' r0f r0f p := by
  obtain ⟨h1, h2, h3, h4⟩ := h
  exact ⟨h1, h2, fun k hk => by rw [ho k hk]; exact h3 k hk, h4⟩
theorem aFm_89 {J' : zI} (h : ∀ x, x ≠ 89 → J' x = J x) (h2 : ∀ y, y = 1 ∨ y = 3 → J' 89 y = J 89 y) : aFm J J' := ⟨fun x a _ _ _ _ => h x a, fun y _ => by rw [h 90 (by decide)], h2⟩
/-- one head -/
theorem r_head (hRM : zRM RM) (hP : aPm J b n s g r D o r0f r0f p) (hb : b ≤ 80) (hp : p < b) (hok : rOk n s g r) (ho : ∀ k, k < D → o k < n) (h8 : 0 < D → r (o (D - 1)) < 8) (hn : n < 32) (hD : D ≤ 7) (h14 : J 89 14 = 1) {v : Nat} (hv : v < 3) (hby : aBm (J 91) b p = nI (97 + v)) (f : Nat) :
    (aBm (J 91) b (p + 1) = 40 → ∃ J2, f_X7_reads_54 F zKm RM 89 (f + 1) J 1 = f_X7_reads_54 F zKm RM 89 f J2 1 ∧ aPm J2 b (n + 1) (aUp s n 0) (aUp g n v) (aRn r n D o) (D + 1) (aUp o D n) r0f r0f (p + 2) ∧ J2 89 14 = 1 ∧ J2 89 4 = J 89 4 ∧ aFm J J2) ∧
    (aBm (J 91) b (p + 1) ≠ 40 → ∃ J2, f_X7_reads_54 F zKm RM 89 (f + 1) J 1 = f_X7_reads_54 F zKm RM 89 f J2 1 ∧ aPm J2 b (n + 1) (aUp s n 0) (aUp g n v) (aRn r n D o) D o r0f r0f (p + 1) ∧ J2 89 14 = 0 ∧ J2 89 4 = J 89 4 ∧ aFm J J2) := by
  obtain ⟨J0, hJ0⟩ : ∃ x : zI, x = zup J 89 14 0 := ⟨_, rfl⟩
  have u : ∀ x, x ≠ 89 → J0 x = J x := fun x hx => by rw [hJ0, zup_ne _ _ _ hx]
  have u9 : ∀ y, y ≠ 14 → J0 89 y = J 89 y := fun y hy => by rw [hJ0, zup_self_ne _ _ _ hy]
  have F0 : aFm J J0 := aFm_89 u (fun y hy => u9 y (by omega))
  have hP0 : aPm J0 b n s g r D o r0f r0f p := by
    obtain ⟨⟨a1, a2, a3⟩, b1, b2, b3, b4, b5⟩ := hP
    exact ⟨⟨by rw [u9 3 (by decide)]; exact a1, by rw [u9 12 (by decide)]; exact a2, by rw [u9 13 (by decide)]; exact a3⟩, by rw [u 90 (by decide)]; exact b1, fun k hk => by rw [u 97 (by decide)]; exact b2 k hk, by rw [u 98 (by decide)]; exact b3, fun k hk => by rw [u 98 (by decide)]; exact b4 k hk, fun k hk => by rw [u 96 (by decide)]; exact b5 k hk⟩
  have hA : aOk b n s g r D o r0f r0f p := ⟨by omega, by omega, hb, by omega, fun i hi => by
    obtain ⟨q1, q2, q3⟩ := hok i hi
    show s i ≤ 3 ∧ r i ≤ 8 ∧ (s i = 0 → g i ≤ 12) ∧ (s i ≠ 0 → g i ≤ 9)
    exact ⟨by omega, q3, fun _ => q2, fun e => absurd q1 e⟩, ho, fun _ _ => Nat.zero_le _, fun _ _ => Nat.zero_le _⟩
  have hby0 : aBm (J0 91) b p = nI (97 + v) := by rw [u 91 (by decide)]; exact hby
  have hd : aHd (aBm (J0 91) b p) (aBm (J0 91) b (p + 1)) D v 0 1 0 := Or.inl ⟨rfl, rfl, hby0, by omega, rfl⟩
  have e1 := (X7_begins (F := F) hRM hP0 hb (by omega)).1 v 0 1 0 _ hd
  obtain ⟨J1, e2, e3, e4, e5⟩ := (X7_43 (F := F) hRM hP0 hA hd).2.2.2 (fun e => by have := h8 e.1; omega) (by omega) (fun e => e.1 rfl)
  rw [if_neg (by decide)] at e2 e3
  rw [if_pos rfl] at e3
  have t91 : J1 91 = J 91 := by rw [e4.1 91 (by decide) (by decide) (by decide) (by decide) (by decide), u 91 (by decide)]
  have x359 := X7_359 (F := F) (so := 0) hRM e3 (by omega) (by omega) hb (by omega) hD (by decide)
  rw [if_neg (show ¬ (0 = 3) by decide), t91, Nat.add_sub_cancel, aUp_0] at x359
  have start : ∀ J2, f_X7_begins_359 F zKm RM 89 J1 (nI 0) (some 89) (nI p) 1 = some (1, J2) → f_X7_reads_54 F zKm RM 89 (f + 1) J 1 = f_X7_reads_54 F zKm RM 89 f J2 1 := fun J2 h2 => by
    show g_X7_reads_54 F zKm RM 89 (f_X7_reads_54 F zKm RM 89 f) J 1 = _
    unfold g_X7_reads_54
    rw [if_neg (by decide), h14, if_neg (by decide), zbd_s, ← hJ0, e1, e2, h2, zbd2_s, if_neg (by decide)]
  have j4 : J1 89 4 = J 89 4 := by rw [e5, u9 4 (by decide)]
  have j14 : J1 89 14 = 0 := by rw [e5, hJ0, zup_self]
  refine ⟨fun h40 => ?_, fun h40 => ?_⟩
  · obtain ⟨J2, y1, y2, y3, y4, y5⟩ := x359.1 ⟨h40, by decide⟩
    exact ⟨J2, start J2 y1, y2, y4, y5.trans j4, aFm_tr F0 (aFm_tr e4 y3)⟩
  · obtain ⟨J2, y1, y2, y3, y4, y5⟩ := x359.2 (fun e => h40 e.1)
    exact ⟨J2, start J2 y1, y2, y4.trans j14, y5.trans j4, aFm_tr F0 (aFm_tr e4 y3)⟩
theorem r_comma (hRM : zRM RM) (hP : aPm J b n s g r D o r0f r0f p) (hb : b ≤ 80) (hp : p < b) (hD : 0 < D) (hD7 : D ≤ 8) (h14 : J 89 14 = 0) (hby : aBm (J 91) b p = 44) (f : Nat) : ∃ J2, f_X7_reads_54 F zKm RM 89 (f + 1) J 1 = f_X7_reads_54 F zKm RM 89 f J2 1 ∧ aPm J2 b n s g r D o r0f r0f (p + 1) ∧ J2 89 14 = 1 ∧ J2 89 4 = J 89 4 ∧ aFm J J2 := by
  obtain ⟨⟨a1, a2, a3⟩, b1, b2, b3, b4, b5⟩ := hP
  have u : ∀ x, x ≠ 89 → zup (zup J 89 13 (nI (p + 1))) 89 14 1 x = J x := fun x hx => by rw [zup_ne _ _ _ hx, zup_ne _ _ _ hx]
  have u9 : ∀ y, y ≠ 13 → y ≠ 14 → zup (zup J 89 13 (nI (p + 1))) 89 14 1 89 y = J 89 y := fun y h1 h2 => by rw [zup_self_ne _ _ _ h2, zup_self_ne _ _ _ h1]
  refine ⟨zup (zup J 89 13 (nI (p + 1))) 89 14 1, ?_, ⟨⟨by rw [u9 3 (by decide) (by decide)]; exact a1, by rw [u9 12 (by decide) (by decide)]; exact a2, by rw [zup_self_ne _ _ _ (by decide), zup_self]⟩, by rw [u 90 (by decide)]; exact b1, fun k hk => by rw [u 97 (by decide)]; exact b2 k hk, by rw [u 98 (by decide)]; exact b3, fun k hk => by rw [u 98 (by decide)]; exact b4 k hk, fun k hk => by rw [u 96 (by decide)]; exact b5 k hk⟩, zup_self _ _ _ _, u9 4 (by decide) (by decide), aFm_89 u (fun y hy => u9 y (by omega) (by omega))⟩
  show g_X7_reads_54 F zKm RM 89 (f_X7_reads_54 F zKm RM 89 f) J 1 = _
  unfold g_X7_reads_54
  rw [if_neg (by decide), h14, if_pos rfl, a2, if_neg (fun e => by have := (nI_z (by omega)).mp e; omega), a3, X7_byteAt hRM a1 hb (by omega), zbd_s, hby, if_pos rfl, zbd_s, nI_1, zbd_s]
theorem r_close (hRM : zRM RM) (hP : aPm J b n s g r (D + 1) o r0f r0f p) (hb : b ≤ 80) (hp : p < b) (hD7 : D ≤ 8) (h14 : J 89 14 = 0) (hby : aBm (J 91) b p = 41) (f : Nat) : ∃ J2, f_X7_reads_54 F zKm RM 89 (f + 1) J 1 = f_X7_reads_54 F zKm RM 89 f J2 1 ∧ aPm J2 b n s g r D o r0f r0f (p + 1) ∧ J2 89 14 = 0 ∧ J2 89 4 = J 89 4 ∧ aFm J J2 := by
  obtain ⟨⟨a1, a2, a3⟩, b1, b2, b3, b4, b5⟩ := hP
  have u : ∀ x, x ≠ 89 → zup (zup J 89 13 (nI (p + 1))) 89 12 (nI D) x = J x := fun x hx => by rw [zup_ne _ _ _ hx, zup_ne _ _ _ hx]
  have u9 : ∀ y, y ≠ 13 → y ≠ 12 → zup (zup J 89 13 (nI (p + 1))) 89 12 (nI D) 89 y = J 89 y := fun y h1 h2 => by rw [zup_self_ne _ _ _ h2, zup_self_ne _ _ _ h1]
  refine ⟨zup (zup J 89 13 (nI (p + 1))) 89 12 (nI D), ?_, ⟨⟨by rw [u9 3 (by decide) (by decide)]; exact a1, zup_self _ _ _ _, by rw [zup_self_ne _ _ _ (by decide), zup_self]⟩, by rw [u 90 (by decide)]; exact b1, fun k hk => by rw [u 97 (by decide)]; exact b2 k (by omega), by rw [u 98 (by decide)]; exact b3, fun k hk => by rw [u 98 (by decide)]; exact b4 k (by omega), fun k hk => by rw [u 96 (by decide)]; exact b5 k hk⟩, by rw [u9 14 (by decide) (by decide)]; exact h14, u9 4 (by decide) (by decide), aFm_89 u (fun y hy => u9 y (by omega) (by omega))⟩
  show g_X7_reads_54 F zKm RM 89 (f_X7_reads_54 F zKm RM 89 f) J 1 = _
  unfold g_X7_reads_54
  rw [if_neg (by decide), h14, if_pos rfl, a2, if_neg (fun e => by have := (nI_z (by omega)).mp e; omega), a3, X7_byteAt hRM a1 hb (by omega), zbd_s, hby, if_neg (by decide), zbd_s, if_pos rfl, zbd_s, nI_1, zbd_s, zup_self_ne _ _ _ (by decide), a2, show nI (D + 1) - (1 : Int32) = nI D from aPrd (show 1 ≤ D + 1 by omega)]
/-- what reading a forest adds -/
def rSp (s g r s' g' r' : Nat → Nat) (n pa : Nat) (G : aFo) : Prop := (∀ i, i < n → s' i = s i ∧ g' i = g i ∧ r' i = r i + if i = pa then qLn G else 0) ∧ ∀ (j : Nat) (v : Nat × Nat), (qLi G)[j]? = some v → s' (n + j) = 0 ∧ g' (n + j) = v.1 ∧ r' (n + j) = v.2
theorem rSp_ok {s' g' r' : Nat → Nat} {G : aFo} {pa : Nat} (h : rSp s g r s' g' r' n pa G) (hok : rOk n s g r) (ha : r pa + qLn G ≤ 8) (hN : dN G) : rOk (n + qSz G) s' g' r' := by
  intro i hi
  by_cases c : i < n
  · obtain ⟨a1, a2, a3⟩ := h.1 i c
    obtain ⟨b1, b2, b3⟩ := hok i c
    refine ⟨by omega, by omega, ?_⟩
    rw [a3]
    by_cases e : i = pa
    · rw [if_pos e, e]; exact ha
    · rw [if_neg e]; omega
  · obtain ⟨v, hv, -⟩ := qLi_at G (i - n) (by omega)
    obtain ⟨a1, a2, a3⟩ := h.2 _ v hv
    obtain ⟨b1, b2⟩ := dN_li hN _ v hv
    rw [show n + (i - n) = i by omega] at a1 a2 a3
    exact ⟨a1, by omega, by omega⟩
/-- behind a node with its arguments -/
theorem rSp_1 {s1 g1 r1 s2 g2 r2 : Nat → Nat} {w pa : Nat} {k : aFo} (h1 : ∀ i, i < n → s1 i = s i ∧ g1 i = g i ∧ r1 i = r i + if i = pa then 1 else 0) (h2 : s1 n = 0 ∧ g1 n = w ∧ r1 n = 0) (h3 : rSp s1 g1 r1 s2 g2 r2 (n + 1) n k) : (∀ i, i < n → s2 i = s i ∧ g2 i = g i ∧ r2 i = r i + if i = pa then 1 else 0) ∧ (s2 n = 0 ∧ g2 n = w ∧ r2 n = qLn k) ∧ ∀ (j : Nat) (v : Nat × Nat), (qLi k)[j]? = some v → s2 (n + 1 + j) = 0 ∧ g2 (n + 1 + j) = v.1 ∧ r2 (n + 1 + j) = v.2 := by
  refine ⟨fun i hi => ?_, ?_, h3.2⟩
  · obtain ⟨a1, a2, a3⟩ := h3.1 i (by omega)
    obtain ⟨b1, b2, b3⟩ := h1 i hi
    rw [if_neg (by omega)] at a3
    exact ⟨a1.trans b1, a2.trans b2, a3.trans b3⟩
  · obtain ⟨a1, a2, a3⟩ := h3.1 n (by omega)
    rw [if_pos rfl] at a3
    exact ⟨a1.trans h2.1, a2.trans h2.2.1, by rw [a3, h2.2.2, Nat.zero_add]⟩
theorem rSp_2 {s2 g2 r2 s3 g3 r3 : Nat → Nat} {w pa : Nat} {k r' : aFo} (hpa : pa < n) (h1 : ∀ i, i < n → s2 i = s i ∧ g2 i = g i ∧ r2 i = r i + if i = pa then 1 else 0) (h2 : s2 n = 0 ∧ g2 n = w ∧ r2 n = qLn k) (h3 : ∀ (j : Nat) (v : Nat × Nat), (qLi k)[j]? = some v → s2 (n + 1 + j) = 0 ∧ g2 (n + 1 + j) = v.1 ∧ r2 (n + 1 + j) = v.2) (h4 : rSp s2 g2 r2 s3 g3 r3 (n + 1 + qSz k) pa r') : rSp s g r s3 g3 r3 n pa (Lean.RArray.branch w k r') := by
  refine ⟨fun i hi => ?_, fun j v hv => ?_⟩
  · obtain ⟨a1, a2, a3⟩ := h4.1 i (by omega)
    obtain ⟨b1, b2, b3⟩ := h1 i hi
    refine ⟨a1.trans b1, a2.trans b2, ?_⟩
    rw [a3, b3, qLn]
    by_cases e : i = pa
    · rw [if_pos e, if_pos e, if_pos e]; omega
    · rw [if_neg e, if_neg e, if_neg e]
  · rw [qLi] at hv
    cases j with
    | zero =>
      cases hv
      obtain ⟨a1, a2, a3⟩ := h4.1 n (by omega)
      rw [if_neg (by omega)] at a3
      exact ⟨a1.trans h2.1, a2.trans h2.2.1, a3.trans h2.2.2⟩
    | succ j =>
      rw [List.getElem?_cons_succ] at hv
      by_cases c : j < (qLi k).length
      · rw [List.getElem?_append_left c] at hv
        rw [qLi_len] at c
        obtain ⟨a1, a2, a3⟩ := h4.1 (n + 1 + j) (by omega)
        obtain ⟨b1, b2, b3⟩ := h3 j v hv
        rw [if_neg (by omega)] at a3
        rw [show n + (j + 1) = n + 1 + j by omega]
        exact ⟨a1.trans b1, a2.trans b2, a3.trans b3⟩
      · rw [List.getElem?_append_right (by omega), qLi_len] at hv
        rw [qLi_len] at c
        have := h4.2 _ v hv
        rw [show n + 1 + qSz k + (j - qSz k) = n + (j + 1) by omega] at this
        exact this
theorem aRn_lt {i : Nat} (hi : i < n) (hD : 0 < D) : aRn r n D o i = r i + if i = o (D - 1) then 1 else 0 := by
  unfold aRn
  rw [if_neg (by omega)]
  by_cases e : i = o (D - 1)
  · rw [if_pos ⟨hD, e⟩, if_pos e]
  · rw [if_neg (fun h => e h.2), if_neg e, Nat.add_zero]
theorem aRn_n : aRn r n D o n = 0 := by unfold aRn; rw [if_pos rfl]
/-- the symbol behind a forest is no opening bracket -/
theorem tA_next {X : Nat → Int32} {q : aFo} (h : tA X b p (if qLn q = 0 then [] else 44 :: prF q)) (h2 : aBm X b (p + (if qLn q = 0 then [] else 44 :: prF q).length) ≠ 40) : aBm X b p ≠ 40 := by
  by_cases c : qLn q = 0
  · rw [if_pos c] at h2; exact h2
  · rw [if_neg c] at h
    rw [(tA_c h).2.1]
    decide
/-- A FOREST IS READ -/
theorem r_forest (hRM : zRM RM) (hb : b ≤ 80) : ∀ (G : aFo) (D n p f : Nat) (s g r o : Nat → Nat) (J : zI), qLn G ≠ 0 → dN G → 0 < D → D + qHt G ≤ 8 → n + qSz G ≤ 32 → (∀ k, k < D → o k < n) → rOk n s g r → r (o (D - 1)) + qLn G ≤ 8 → aPm J b n s g r D o r0f r0f p → J 89 14 = 1 → tA (J 91) b p (prF G) → aBm (J 91) b (p + (prF G).length) ≠ 40 → (prF G).length < f → ∃ (f' : Nat) (J' : zI) (s' g' r' : Nat → Nat), f ≤ f' + (prF G).length ∧ f_X7_reads_54 F zKm RM 89 f J 1 = f_X7_reads_54 F zKm RM 89 f' J' 1 ∧ aPm J' b (n + qSz G) s' g' r' D o r0f r0f (p + (prF G).length) ∧ J' 89 14 = 0 ∧ J' 89 4 = J 89 4 ∧ aFm J J' ∧ rSp s g r s' g' r' n (o (D - 1)) G := by
  intro G
  induction G with
  | leaf _ => intro D n p f s g r o J h; exact absurd rfl h
  | branch w k q ihk ihr =>
    intro D n p f s g r o J h0 hN hD0 hDh hn ho hok har hP h14 htx hnx hf
    have f91 : ∀ {J J' : zI}, aFm J J' → J' 91 = J 91 := fun h => h.1 91 (by decide) (by decide) (by decide) (by decide) (by decide)
    have hpa := ho (D - 1) (by omega)
    obtain ⟨⟨hw, hk3⟩, nk, nq⟩ := hN
    rw [qSz] at hn
    rw [qHt] at hDh
    rw [qLn] at har
    rw [prF] at htx hnx hf
    rw [prF, qSz]
    rw [List.length_cons, List.length_append] at hnx hf
    rw [List.length_cons, List.length_append]
    obtain ⟨c1, c2, c3⟩ := tA_c htx
    obtain ⟨t1, t2⟩ := tA_a c3
    obtain ⟨f, rfl⟩ : ∃ y, f = y + 1 := ⟨f - 1, by omega⟩
    obtain ⟨hA, hB⟩ := r_head (F := F) hRM hP hb c1 hok ho (fun _ => by omega) (by omega) (by omega) h14 hw c2 f
    have fns : ∀ i, i < n → aUp s n 0 i = s i ∧ aUp g n w i = g i ∧ aRn r n D o i = r i + if i = o (D - 1) then 1 else 0 := fun i hi => ⟨aUp_ne _ _ (by omega), aUp_ne _ _ (by omega), aRn_lt hi hD0⟩
    have fnn : aUp s n 0 n = 0 ∧ aUp g n w n = w ∧ aRn r n D o n = 0 := ⟨aUp_self _ _ _, aUp_self _ _ _, aRn_n⟩
    have hx : ∀ (x : aFo), (if qLn x = 0 then ([] : List Nat) else 44 :: prF x).length = if qLn x = 0 then 0 else (prF x).length + 1 := fun x => by
      by_cases e : qLn x = 0
      · rw [if_pos e, if_pos e]; rfl
      · rw [if_neg e, if_neg e]; rfl
    -- behind the first node with its arguments
    have tail : ∀ (p2 f2 : Nat) (s2 g2 r2 : Nat → Nat) (J2 : zI), p2 = p + 1 + (if qLn k = 0 then [] else 40 :: (prF k ++ [41])).length → (if qLn q = 0 then ([] : List Nat) else 44 :: prF q).length < f2 → f ≤ f2 + (if qLn k = 0 then [] else 40 :: (prF k ++ [41])).length → f_X7_reads_54 F zKm RM 89 (f + 1) J 1 = f_X7_reads_54 F zKm RM 89 f2 J2 1 → aPm J2 b (n + 1 + qSz k) s2 g2 r2 D o r0f r0f p2 → J2 89 14 = 0 → J2 89 4 = J 89 4 → aFm J J2 → (∀ i, i < n → s2 i = s i ∧ g2 i = g i ∧ r2 i = r i + if i = o (D - 1) then 1 else 0) → (s2 n = 0 ∧ g2 n = w ∧ r2 n = qLn k) → (∀ (j : Nat) (v : Nat × Nat), (qLi k)[j]? = some v → s2 (n + 1 + j) = 0 ∧ g2 (n + 1 + j) = v.1 ∧ r2 (n + 1 + j) = v.2) → ∃ (f' : Nat) (J' : zI) (s' g' r' : Nat → Nat), f + 1 ≤ f' + ((if qLn k = 0 then [] else 40 :: (prF k ++ [41])).length + (if qLn q = 0 then ([] : List Nat) else 44 :: prF q).length + 1) ∧ f_X7_reads_54 F zKm RM 89 (f + 1) J 1 = f_X7_reads_54 F zKm RM 89 f' J' 1 ∧ aPm J' b (n + (1 + qSz k + qSz q)) s' g' r' D o r0f r0f (p + ((if qLn k = 0 then [] else 40 :: (prF k ++ [41])).length + (if qLn q = 0 then ([] : List Nat) else 44 :: prF q).length + 1)) ∧ J' 89 14 = 0 ∧ J' 89 4 = J 89 4 ∧ aFm J J' ∧ rSp s g r s' g' r' n (o (D - 1)) (Lean.RArray.branch w k q) := by
      intro p2 f2 s2 g2 r2 J2 hp2 hl2 hf2 e2 P2 j14 j4 F2 sp1 sp2 sp3
      rw [← hp2] at t2
      by_cases cq : qLn q = 0
      · have z0 := qLn_0 cq
        refine ⟨f2, J2, s2, g2, r2, ?_, e2, ?_, j14, j4, F2, rSp_2 (r' := q) hpa sp1 sp2 sp3 ⟨fun i _ => ⟨rfl, rfl, ?_⟩, fun j v hv => ?_⟩⟩
        · rw [if_pos cq, List.length_nil]; omega
        · rw [if_pos cq, List.length_nil, z0, show n + (1 + qSz k + 0) = n + 1 + qSz k by omega, Nat.add_zero, show p + ((if qLn k = 0 then [] else 40 :: (prF k ++ [41])).length + 1) = p2 by omega]
          exact P2
        · rw [cq]
          by_cases e : i = o (D - 1)
          · rw [if_pos e]; rfl
          · rw [if_neg e]; rfl
        · have := (List.getElem?_eq_some_iff.mp hv).1
          rw [qLi_len, z0] at this
          omega
      · rw [if_neg cq] at t2 hl2
        rw [List.length_cons] at hl2
        obtain ⟨d1, d2, d3⟩ := tA_c t2
        obtain ⟨f2, rfl⟩ : ∃ y, f2 = y + 1 := ⟨f2 - 1, by omega⟩
        obtain ⟨J3, e3, P3, k14, k4, F3⟩ := r_comma (F := F) hRM P2 hb d1 hD0 (by omega) j14 (by rw [f91 F2, d2]; rfl) f2
        have x2 : rSp s g r s2 g2 r2 n (o (D - 1)) (Lean.RArray.branch w k (.leaf ())) := by
          refine rSp_2 (r' := .leaf ()) hpa sp1 sp2 sp3 ⟨fun i _ => ⟨rfl, rfl, ?_⟩, fun j v hv => by cases hv⟩
          by_cases e : i = o (D - 1)
          · rw [if_pos e]; rfl
          · rw [if_neg e]; rfl
        have ok2 : rOk (n + 1 + qSz k) s2 g2 r2 := by
          have := rSp_ok x2 hok (by rw [qLn, qLn]; omega) ⟨⟨hw, hk3⟩, nk, True.intro⟩
          rw [qSz, qSz, show n + (1 + qSz k + 0) = n + 1 + qSz k by omega] at this
          exact this
        have ra : r2 (o (D - 1)) = r (o (D - 1)) + 1 := by rw [(sp1 _ hpa).2.2, if_pos rfl]
        obtain ⟨f', J', s', g', r', y1, y2, y3, y4, y5, y6, y7⟩ := ihr D (n + 1 + qSz k) (p2 + 1) f2 s2 g2 r2 o J3 cq nq hD0 (by omega) (by omega) (fun x hx => by have := ho x hx; omega) ok2 (by rw [ra]; omega) P3 k14 (by rw [f91 F3, f91 F2]; exact d3) (by
          rw [f91 F3, f91 F2]
          rw [if_neg cq, List.length_cons] at hnx
          rw [show p2 + 1 + (prF q).length = p + ((if qLn k = 0 then [] else 40 :: (prF k ++ [41])).length + ((prF q).length + 1) + 1) by omega]
          exact hnx) (by omega)
        refine ⟨f', J', s', g', r', ?_, by rw [e2, e3, y2], ?_, y4, by rw [y5, k4, j4], aFm_tr F2 (aFm_tr F3 y6), rSp_2 hpa sp1 sp2 sp3 y7⟩
        · rw [if_neg cq, List.length_cons]; omega
        · rw [if_neg cq, List.length_cons, show n + (1 + qSz k + qSz q) = n + 1 + qSz k + qSz q by omega, show p + ((if qLn k = 0 then [] else 40 :: (prF k ++ [41])).length + ((prF q).length + 1) + 1) = p2 + 1 + (prF q).length by omega]
          exact y3
    by_cases ck : qLn k = 0
    · have zk := qLn_0 ck
      rw [if_pos ck] at t2 hnx tail
      rw [List.length_nil, Nat.add_zero] at t2
      obtain ⟨J2, e2, P2, j14, j4, F2⟩ := hB (tA_next t2 (by
        rw [List.length_nil, Nat.zero_add] at hnx
        rw [show p + 1 + (if qLn q = 0 then [] else 44 :: prF q).length = p + ((if qLn q = 0 then [] else 44 :: prF q).length + 1) by omega]
        exact hnx))
      rw [if_pos ck] at hf ⊢
      rw [List.length_nil] at hf
      refine tail (p + 1) f _ _ _ J2 (by rw [List.length_nil]) (by omega) (by omega) e2 (by rw [zk]; exact P2) j14 j4 F2 fns ⟨fnn.1, fnn.2.1, by rw [fnn.2.2, ck]⟩ (fun j v hv => ?_)
      have := (List.getElem?_eq_some_iff.mp hv).1
      rw [qLi_len, zk] at this
      omega
    · rw [if_neg ck] at t1 t2 hnx tail hf ⊢
      have lk : (40 :: (prF k ++ [41])).length = (prF k).length + 2 := by rw [List.length_cons, List.length_append, List.length_singleton]
      rw [lk] at t2 hnx tail hf ⊢
      obtain ⟨d1, d2, d3⟩ := tA_c t1
      obtain ⟨d4, d5⟩ := tA_a d3
      obtain ⟨d6, d7, -⟩ := tA_c d5
      obtain ⟨J2, e2, P2, j14, j4, F2⟩ := hA (by rw [d2]; rfl)
      have ok1 : rOk (n + 1) (aUp s n 0) (aUp g n w) (aRn r n D o) := fun i hi => by
        by_cases c : i = n
        · rw [c, fnn.1, fnn.2.1, fnn.2.2]; exact ⟨rfl, by omega, by omega⟩
        · obtain ⟨a1, a2, a3⟩ := fns i (by omega)
          obtain ⟨b1, b2, b3⟩ := hok i (by omega)
          rw [a1, a2, a3]
          refine ⟨b1, b2, ?_⟩
          by_cases e : i = o (D - 1)
          · rw [if_pos e, e]; omega
          · rw [if_neg e]; omega
      have oD : aUp o D n (D + 1 - 1) = n := by rw [Nat.add_sub_cancel]; exact aUp_self _ _ _
      obtain ⟨f', J3, s2, g2, r2, y1, y2, y3, y4, y5, y6, y7⟩ := ihk (D + 1) (n + 1) (p + 2) f (aUp s n 0) (aUp g n w) (aRn r n D o) (aUp o D n) J2 ck nk (by omega) (by omega) (by omega) (fun x hx => by
        by_cases c : x = D
        · rw [c, aUp_self]; omega
        · rw [aUp_ne _ _ c]; have := ho x (by omega); omega) ok1 (by rw [oD, fnn.2.2]; omega) P2 j14 (by rw [f91 F2]; exact d4) (by rw [f91 F2, show p + 2 + (prF k).length = p + 1 + 1 + (prF k).length by omega, d7]; decide) (by omega)
      rw [oD] at y7
      obtain ⟨sp1, sp2, sp3⟩ := rSp_1 fns fnn y7
      obtain ⟨f', rfl⟩ : ∃ y, f' = y + 1 := ⟨f' - 1, by omega⟩
      obtain ⟨J4, e4, P4, m14, m4, F4⟩ := r_close (F := F) hRM y3 hb (by omega) (by omega) y4 (by rw [f91 y6, f91 F2, show p + 2 + (prF k).length = p + 1 + 1 + (prF k).length by omega, d7]; rfl) f'
      refine tail (p + 2 + (prF k).length + 1) f' s2 g2 r2 J4 (by omega) (by omega) (by omega) (by rw [e2, y2, e4]) (aPm_o P4 (fun x hx => (aUp_ne _ _ (by omega)).symm)) m14 (by rw [m4, y5, j4]) (aFm_tr F2 (aFm_tr y6 F4)) sp1 sp2 sp3
end ZPT
