/-! THE GHOST'S matches() AND joins() AS WHOLES -/
section GMW
variable {F : Nat} {J : zI} {RM : zR} {o q a b to : Nat} {T U : Tm} {hs : Nat → Nat} {hd : Bool}
theorem gmLoop (hF : 200 ≤ F) (hRM : zRM RM) (ho : o + 97 ≤ 5751) (hq : q + 97 ≤ 5751) (hT : tWF T) (hU : tWF U) (hT3 : tN3 T) (hU3 : tN3 U) : ∀ (P A : aFo) (i j d d' s : Nat) (f : pFl) (J : zI), aTf T P i d → aTf U A j d' → qLn P = qLn A → i + qSz P ≤ tn T → j + qSz A ≤ tn U → s + qSz P ≤ 100 → qW hs P → gMS J o q T U hs f → J 89 29 = nI (s + qLn P) → gFr J T U i j (qLn P) s →
    (mt P A j f = none ∧ ∃ n J', n ≤ qSz P + 1 ∧ (∀ fu, f_X7_matches_55 F zKm RM 89 (fu + n) J (nI o) (nI q) 1 = some (0, J')) ∧ gMf J J') ∨
    (∃ f' J', mt P A j f = some f' ∧ (∀ fu, f_X7_matches_55 F zKm RM 89 (fu + qSz P) J (nI o) (nI q) 1 = f_X7_matches_55 F zKm RM 89 fu J' (nI o) (nI q) 1) ∧ gMS J' o q T U hs f' ∧ J' 89 29 = nI s ∧ gMf J J' ∧ zFrS s J J') := by
  intro P
  induction P with
  | leaf _ =>
    intro A i j d d' s f J _ _ hl _ _ _ _ h hsJ _
    cases A with
    | branch _ _ _ => rw [qLn, qLn] at hl; omega
    | leaf _ => exact Or.inr ⟨f, J, rfl, fun fu => rfl, h, hsJ, gMf_refl _, fun _ _ _ _ _ => rfl⟩
  | branch w p r ihp ihr =>
    intro A i j d d' s f J hA hB hl hi hj hs1 hW h hsJ hfr
    cases A with
    | leaf _ => rw [qLn, qLn] at hl; omega
    | branch v k r' =>
      rw [qLn, qLn] at hl
      rw [qSz] at hi hs1
      rw [qSz] at hj
      rw [qLn] at hsJ
      obtain ⟨⟨w1, w2, w3, w4, w5, w6⟩, hWp, hWr⟩ := hW
      have lr := q_len_sz r
      have lp := q_len_sz p
      have a4 := hA.1.2.2.2.1
      have b4 := hB.1.2.2.2.1
      have htop : zEn J (s + qLn r) (0, nI i, 0, nI j, 0) := by
        have := hfr 0 (by rw [qLn]; omega)
        rw [qLn, show s + (1 + qLn r - 1 - 0) = s + qLn r by omega] at this
        exact this
      have hnext : ∀ {J4 : zI}, zFrS (s + qLn r) J J4 → gFr J4 T U (i + 1 + qSz p) (j + 1 + qSz k) (qLn r) s := fun {J4} hS y hy => by
        have := hfr (y + 1) (by rw [qLn]; omega)
        rw [qLn, show s + (1 + qLn r - 1 - (y + 1)) = s + (qLn r - 1 - y) by omega] at this
        rw [show wk (tsp T) (y + 1) i = wk (tsp T) y (i + 1 + qSz p) from by show wk (tsp T) y (i + tsp T i) = _; rw [a4, show i + (1 + qSz p) = i + 1 + qSz p by omega], show wk (tsp U) (y + 1) j = wk (tsp U) y (j + 1 + qSz k) from by show wk (tsp U) y (j + tsp U j) = _; rw [b4, show j + (1 + qSz k) = j + 1 + qSz k by omega]] at this
        exact zEn_frS this hS (by omega)
      rcases gmOne (F := F) (s := s + qLn r) (hs := hs) hF hRM ho hq hT hU hT3 hU3 (p := p) (k := k) (w := w) (v := v) (d := d) (d' := d') ⟨hA.1, hA.2.1, True.intro⟩ ⟨hB.1, hB.2.1, True.intro⟩ (by omega) (by omega) (fun hw => w6 (by omega)) h (by rw [hsJ]; congr 1; omega) (by omega) htop with ⟨e, J', e2, e3⟩ | ⟨c, f1, J3, e1, e2, e3, e4, e5, e6, e7⟩
      · refine Or.inl ⟨?_, 2, J', by rw [qSz]; omega, e2, e3⟩
        rw [mt]
        rcases e with ⟨c1, c2⟩ | ⟨c1, c2, c3⟩ | ⟨c1, c2⟩
        · rw [if_pos c1, if_neg c2]
        · rw [if_neg (by omega), if_pos c2, c3]; rfl
        · rw [if_neg (by omega), if_neg (by omega)]
          by_cases cv : v < 16 ∨ 32 ≤ v
          · rw [if_pos cv]
            cases ef : pFill f (w % 16) (pBr v pNil pNil) j with
            | none => rfl
            | some f1 =>
              show (if qLn p = qLn k then _ else none) = none
              rw [if_neg]
              rcases c2 with x | x | x
              · exact absurd cv x
              · rw [ef] at x; cases x
              · exact x
          · rw [if_neg cv]
      · have beside : ∀ (n : Nat) (f2 : pFl) (J4 : zI), (∀ fu, f_X7_matches_55 F zKm RM 89 (fu + n) J (nI o) (nI q) 1 = f_X7_matches_55 F zKm RM 89 fu J4 (nI o) (nI q) 1) → gMS J4 o q T U hs f2 → J4 89 29 = nI (s + qLn r) → gMf J J4 → zFrS (s + qLn r) J J4 →
            (mt r r' (j + 1 + qSz k) f2 = none ∧ ∃ m J', m ≤ n + (qSz r + 1) ∧ (∀ fu, f_X7_matches_55 F zKm RM 89 (fu + m) J (nI o) (nI q) 1 = some (0, J')) ∧ gMf J J') ∨
            (∃ f' J', mt r r' (j + 1 + qSz k) f2 = some f' ∧ (∀ fu, f_X7_matches_55 F zKm RM 89 (fu + (n + qSz r)) J (nI o) (nI q) 1 = f_X7_matches_55 F zKm RM 89 fu J' (nI o) (nI q) 1) ∧ gMS J' o q T U hs f' ∧ J' 89 29 = nI s ∧ gMf J J' ∧ zFrS s J J') := by
          intro n f2 J4 g1 g2 g3 g4 g5
          rcases ihr r' (i + 1 + qSz p) (j + 1 + qSz k) d d' s f2 J4 hA.2.2 hB.2.2 (by omega) (by omega) (by omega) (by omega) hWr g2 g3 (hnext g5) with ⟨m1, m, J', m2, m3, m4⟩ | ⟨f', J', m1, m2, m3, m4, m5, m6⟩
          · refine Or.inl ⟨m1, n + m, J', by omega, fun fu => ?_, gMf_trans g4 m4⟩
            rw [show fu + (n + m) = fu + m + n by omega, g1]
            exact m3 fu
          · refine Or.inr ⟨f', J', m1, fun fu => ?_, m3, m4, gMf_trans g4 m5, zFrS_trans (zFrS_le g5 (by omega)) m6⟩
            rw [show fu + (n + qSz r) = fu + qSz r + n by omega, g1]
            exact m2 fu
        rcases e7 with ⟨c1, rfl, c3, rfl, rfl⟩ | ⟨c1, c2, c3, rfl⟩ | ⟨c1, c2, c3, c4, rfl⟩
        · rcases ihp k (i + 1) (j + 1) (d + 1) (d' + 1) (s + qLn r) f1 J3 hA.2.1 hB.2.1 c3 (by omega) (by omega) (by omega) hWp e2 e3 e4 with ⟨m1, n, J', m2, m3, m4⟩ | ⟨f2, J4, m1, m2, m3, m4, m5, m6⟩
          · refine Or.inl ⟨by rw [mt, if_pos c1, if_pos ⟨rfl, c3⟩, m1]; rfl, 1 + n, J', by rw [qSz]; omega, fun fu => ?_, gMf_trans e5 m4⟩
            rw [show fu + (1 + n) = fu + n + 1 by omega, e1]
            exact m3 fu
          · rcases beside (1 + qSz p) f2 J4 (fun fu => by rw [show fu + (1 + qSz p) = fu + qSz p + 1 by omega, e1]; exact m2 fu) m3 m4 (gMf_trans e5 m5) (zFrS_trans e6 m6) with ⟨q1, n, J', q2, q3, q4⟩ | ⟨f', J', q1, q2, q3, q4, q5, q6⟩
            · exact Or.inl ⟨by rw [mt, if_pos c1, if_pos ⟨rfl, c3⟩, m1]; exact q1, n, J', by rw [qSz]; omega, q3, q4⟩
            · exact Or.inr ⟨f', J', by rw [mt, if_pos c1, if_pos ⟨rfl, c3⟩, m1]; exact q1, fun fu => by rw [qSz]; exact q2 fu, q3, q4, q5, q6⟩
        · have hp0 : p = pNil := q_len_0 (w4 (Or.inl (by omega)))
          rcases beside 1 f1 J3 e1 e2 e3 e5 e6 with ⟨q1, n, J', q2, q3, q4⟩ | ⟨f', J', q1, q2, q3, q4, q5, q6⟩
          · exact Or.inl ⟨by rw [mt, if_neg (by omega), if_pos c2, c3]; exact q1, n, J', by rw [qSz]; omega, q3, q4⟩
          · exact Or.inr ⟨f', J', by rw [mt, if_neg (by omega), if_pos c2, c3]; exact q1, fun fu => by rw [qSz, hp0]; show f_X7_matches_55 F zKm RM 89 (fu + (1 + 0 + qSz r)) J (nI o) (nI q) 1 = _; exact q2 fu, q3, q4, q5, q6⟩
        · rcases ihp k (i + 1) (j + 1) (d + 1) (d' + 1) (s + qLn r) f1 J3 hA.2.1 hB.2.1 c4 (by omega) (by omega) (by omega) hWp e2 e3 e4 with ⟨m1, n, J', m2, m3, m4⟩ | ⟨f2, J4, m1, m2, m3, m4, m5, m6⟩
          · refine Or.inl ⟨by rw [mt, if_neg (by omega), if_neg (by omega), if_pos c2, c3]; show (if qLn p = qLn k then (mt p k (j + 1) f1).bind _ else none) = none; rw [if_pos c4, m1]; rfl, 1 + n, J', by rw [qSz]; omega, fun fu => ?_, gMf_trans e5 m4⟩
            rw [show fu + (1 + n) = fu + n + 1 by omega, e1]
            exact m3 fu
          · rcases beside (1 + qSz p) f2 J4 (fun fu => by rw [show fu + (1 + qSz p) = fu + qSz p + 1 by omega, e1]; exact m2 fu) m3 m4 (gMf_trans e5 m5) (zFrS_trans e6 m6) with ⟨q1, n, J', q2, q3, q4⟩ | ⟨f', J', q1, q2, q3, q4, q5, q6⟩
            · exact Or.inl ⟨by rw [mt, if_neg (by omega), if_neg (by omega), if_pos c2, c3]; show (if qLn p = qLn k then (mt p k (j + 1) f1).bind _ else none) = none; rw [if_pos c4, m1]; exact q1, n, J', by rw [qSz]; omega, q3, q4⟩
            · exact Or.inr ⟨f', J', by rw [mt, if_neg (by omega), if_neg (by omega), if_pos c2, c3]; show (if qLn p = qLn k then (mt p k (j + 1) f1).bind _ else none) = _; rw [if_pos c4, m1]; exact q1, fun fu => by rw [qSz]; exact q2 fu, q3, q4, q5, q6⟩
/-- matches() -/
theorem gMatches (hF : 5000 ≤ F) (hRM : zRM RM) (ho : o + 97 ≤ 5751) (hq : q + 97 ≤ 5751) {P A : aFo} (hT : tWF (tmF P)) (hU : tWF (tmF A)) (hT3 : tN3 (tmF P)) (hU3 : tN3 (tmF A)) (h1 : qLn P = 1) (h2 : qLn A = 1) (hW : qW hs P) (hTm : zTm (J 90) o (tmF P)) (hUm : zTm (J 90) q (tmF A)) :
    (mt P A 0 (fun _ => none) = none ∧ ∃ J', f_X7_matches F zKm J RM 89 (nI o) (nI q) = some (0, J') ∧ zFrM J J') ∨ ∃ f J', mt P A 0 (fun _ => none) = some f ∧ f_X7_matches F zKm J RM 89 (nI o) (nI q) = some (1, J') ∧ zFrM J J' ∧ gFl J' (tmF A) hs f ∧ (∀ y, y < tn (tmF A) → J' 93 y = nI (tsp (tmF A) y)) := by
  have r5 : RM 89 5 = some 92 := hRM 89 5 (by decide) (by decide) (by decide)
  have r6 : RM 89 6 = some 93 := hRM 89 6 (by decide) (by decide) (by decide)
  have r0 : RM 89 0 = some 90 := hRM 89 0 (by decide) (by decide) (by decide)
  have aP := aTf_tm P
  have aA := aTf_tm A
  have n32 := hT.1.2.1
  have e1 : tn (tmF P) = qSz P := rfl
  have e2 : tn (tmF A) = qSz A := rfl
  generalize tmF P = T at *
  generalize tmF A = U at *
  have c1 := X7_counts (F := F) (J := J) (by omega) r0 ho (w := 92) rfl (by decide) hT.1 (tWF_r hT) hTm
  have c2 := X7_counts (F := F) (J := zrw J 92 0 (tn T) (fun j => nI (tsp T j))) (by omega) r0 hq (w := 93) rfl (by decide) hU.1 (tWF_r hU) (by rw [zrw_ne _ _ _ _ (by decide)]; exact hUm)
  obtain ⟨p1, p2, p3⟩ := zPush_all (zup (zrw (zrw (zrw J 92 0 (tn T) (fun j => nI (tsp T j))) 93 0 (tn U) (fun j => nI (tsp U j))) 113 0 10 (fun _ => (-1 : Int32))) 89 29 (0 : Int32)) 0 (0, 0, 0, 0, 0)
  have eM : f_X7_matches F zKm J RM 89 (nI o) (nI q) = f_X7_matches_55 F zKm RM 89 F (zPush (zup (zrw (zrw (zrw J 92 0 (tn T) (fun j => nI (tsp T j))) 93 0 (tn U) (fun j => nI (tsp U j))) 113 0 10 (fun _ => (-1 : Int32))) 89 29 (0 : Int32)) 0 (0, 0, 0, 0, 0)) (nI o) (nI q) 1 := by
    unfold f_X7_matches
    rw [r5, zbd_s, c1, zbd_s, r6, zbd_s, c2, zbd_s]
    exact X7_matches20 (F := F) hRM (nI o) (nI q) 10 0 F _ (by decide) (by omega)
  have hJ0 : ∀ b, b ≠ 89 → b ≠ 92 → b ≠ 93 → b < 107 ∨ 114 < b → zPush (zup (zrw (zrw (zrw J 92 0 (tn T) (fun j => nI (tsp T j))) 93 0 (tn U) (fun j => nI (tsp U j))) 113 0 10 (fun _ => (-1 : Int32))) 89 29 (0 : Int32)) 0 (0, 0, 0, 0, 0) b = J b := fun b h1 h2 h3 h4 => by rw [p1.1 b h1 (by omega), zup_ne _ _ _ h1, zrw_ne _ _ _ _ (by omega), zrw_ne _ _ _ _ h3, zrw_ne _ _ _ _ h2]
  have h93 : ∀ y, y < tn T → zPush (zup (zrw (zrw (zrw J 92 0 (tn T) (fun j => nI (tsp T j))) 93 0 (tn U) (fun j => nI (tsp U j))) 113 0 10 (fun _ => (-1 : Int32))) 89 29 (0 : Int32)) 0 (0, 0, 0, 0, 0) 92 y = nI (tsp T y) := fun y hy => by rw [p1.1 92 (by decide) (by decide), zup_ne _ _ _ (by decide), zrw_ne _ _ _ _ (by decide), zrw_ne _ _ _ _ (by decide), zrw_in _ _ _ (Nat.zero_le _) hy]
  have h94 : ∀ y, y < tn U → zPush (zup (zrw (zrw (zrw J 92 0 (tn T) (fun j => nI (tsp T j))) 93 0 (tn U) (fun j => nI (tsp U j))) 113 0 10 (fun _ => (-1 : Int32))) 89 29 (0 : Int32)) 0 (0, 0, 0, 0, 0) 93 y = nI (tsp U y) := fun y hy => by rw [p1.1 93 (by decide) (by decide), zup_ne _ _ _ (by decide), zrw_ne _ _ _ _ (by decide), zrw_in _ _ _ (Nat.zero_le _) hy]
  have hfl : gFl (zPush (zup (zrw (zrw (zrw J 92 0 (tn T) (fun j => nI (tsp T j))) 93 0 (tn U) (fun j => nI (tsp U j))) 113 0 10 (fun _ => (-1 : Int32))) 89 29 (0 : Int32)) 0 (0, 0, 0, 0, 0)) U hs (fun _ => none) := fun h hh => Or.inl ⟨rfl, by rw [p1.1 113 (by decide) (by decide), zup_ne _ _ _ (by decide), zrw_in _ _ _ (Nat.zero_le _) hh]⟩
  have j89 : ∀ k, k ≠ 29 → zPush (zup (zrw (zrw (zrw J 92 0 (tn T) (fun j => nI (tsp T j))) 93 0 (tn U) (fun j => nI (tsp U j))) 113 0 10 (fun _ => (-1 : Int32))) 89 29 (0 : Int32)) 0 (0, 0, 0, 0, 0) 89 k = J 89 k := fun k hk => by rw [p1.2.1 k hk, zup_self_ne _ _ _ hk, zrw_ne _ _ _ _ (by decide), zrw_ne _ _ _ _ (by decide), zrw_ne _ _ _ _ (by decide)]
  generalize zPush (zup (zrw (zrw (zrw J 92 0 (tn T) (fun j => nI (tsp T j))) 93 0 (tn U) (fun j => nI (tsp U j))) 113 0 10 (fun _ => (-1 : Int32))) 89 29 (0 : Int32)) 0 (0, 0, 0, 0, 0) = J5 at *
  have fM : ∀ {J'}, gMf J5 J' → zFrM J J' := fun {J'} h => ⟨fun b b1 b2 b3 b4 => by rw [h.1 b b1 b4, hJ0 b b1 b2 b3 b4], fun k hk => by rw [h.2 k hk, j89 k hk]⟩
  rcases gmLoop (F := F) (hs := hs) (by omega) hRM ho hq hT hU hT3 hU3 P A 0 0 0 0 0 (fun _ => none) J5 aP aA (by rw [h1, h2]) (by omega) (by omega) (by omega) hW ⟨by rw [hJ0 90 (by decide) (by decide) (by decide) (by decide)]; exact hTm, by rw [hJ0 90 (by decide) (by decide) (by decide) (by decide)]; exact hUm, h93, h94, hfl⟩ (by rw [p2, h1]) (fun y hy => by
      rw [h1] at hy ⊢
      obtain rfl : y = 0 := by omega
      exact p3) with ⟨m1, n, J', m2, m3, m4⟩ | ⟨f, J', m1, m2, m3, m4, m5, m6⟩
  · refine Or.inl ⟨m1, J', ?_, fM m4⟩
    rw [eM, show f_X7_matches_55 F zKm RM 89 F J5 (nI o) (nI q) 1 = f_X7_matches_55 F zKm RM 89 (F - n + n) J5 (nI o) (nI q) 1 by rw [show F - n + n = F by omega]]
    exact m3 _
  · refine Or.inr ⟨f, J', m1, ?_, fM m5, m3.2.2.2.2, m3.2.2.2.1⟩
    rw [eM, show f_X7_matches_55 F zKm RM 89 F J5 (nI o) (nI q) 1 = f_X7_matches_55 F zKm RM 89 (F - 1 - qSz P + 1 + qSz P) J5 (nI o) (nI q) 1 by rw [show F - 1 - qSz P + 1 + qSz P = F by omega], m2]
    show g_X7_matches_55 F zKm RM 89 _ J' (nI o) (nI q) 1 = _
    unfold g_X7_matches_55
    rw [if_neg (by decide), m4, if_pos (by decide), if_pos (Or.inr rfl)]
/-- joins(), with no hole in the table -/
theorem gJoins (hF : 5000 ≤ F) (hRM : zRM RM) (hr : gRw a b to) {A B : aFo} (hT : tWF (tmF A)) (hU : tWF (tmF B)) (hT3 : tN3 (tmF A)) (hU3 : tN3 (tmF B)) (h1 : qLn A = 1) (h2 : qLn B = 1) (hTm : zTm (J 90) a (tmF A)) (hUm : zTm (J 90) b (tmF B)) (h16 : J 89 16 = 0) (h777 : J 90 777 = 0) (hhd : J 90 776 = 1 ↔ hd = true) :
    ∃ v J', f_X7_joins F zKm J RM 89 (nI a) (nI b) (nI to) = some (v, J') ∧ zJoJ to J J' ∧ ((jn hd A B 0 0 [] = none ∧ v = 0) ∨ ∃ P tb, jn hd A B 0 0 [] = some (P, tb) ∧ v = 1 ∧ zTm (J' 90) to (tmF P) ∧ gTb J' a b (tmF A) (tmF B) tb) := by
  have r0 : RM 89 0 = some 90 := hRM 89 0 (by decide) (by decide) (by decide)
  have r5 : RM 89 5 = some 92 := hRM 89 5 (by decide) (by decide) (by decide)
  have r6 : RM 89 6 = some 93 := hRM 89 6 (by decide) (by decide) (by decide)
  have aP := aTf_tm A
  have aA := aTf_tm B
  have n32 := hT.1.2.1
  have e1 : tn (tmF A) = qSz A := rfl
  have e2 : tn (tmF B) = qSz B := rfl
  obtain ⟨ra, rb, rt, rt2, rd1, rd2⟩ := id hr
  generalize tmF A = T at *
  generalize tmF B = U at *
  have c1 := X7_counts (F := F) (J := J) (by omega) r0 ra (w := 92) rfl (by decide) hT.1 (tWF_r hT) hTm
  have c2 := X7_counts (F := F) (J := zrw J 92 0 (tn T) (fun j => nI (tsp T j))) (by omega) r0 rb (w := 93) rfl (by decide) hU.1 (tWF_r hU) (by rw [zrw_ne _ _ _ _ (by decide)]; exact hUm)
  obtain ⟨p1, p2, p3⟩ := zPush_all (zup (zup (zrw (zrw J 92 0 (tn T) (fun j => nI (tsp T j))) 93 0 (tn U) (fun j => nI (tsp U j))) 90 to (0 : Int32)) 89 29 (0 : Int32)) 0 (0, 0, 0, 0, 0)
  obtain ⟨J5, hJ5⟩ : ∃ x, x = zPush (zup (zup (zrw (zrw J 92 0 (tn T) (fun j => nI (tsp T j))) 93 0 (tn U) (fun j => nI (tsp U j))) 90 to (0 : Int32)) 89 29 (0 : Int32)) 0 (0, 0, 0, 0, 0) := ⟨_, rfl⟩
  rw [← hJ5] at p1 p2 p3
  have j93 : ∀ y, y < tn T → J5 92 y = nI (tsp T y) := fun y hy => by rw [p1.1 92 (by decide) (by decide), zup_ne _ _ _ (by decide), zup_ne _ _ _ (by decide), zrw_ne _ _ _ _ (by decide), zrw_in _ _ _ (Nat.zero_le _) hy]
  have j94 : ∀ y, y < tn U → J5 93 y = nI (tsp U y) := fun y hy => by rw [p1.1 93 (by decide) (by decide), zup_ne _ _ _ (by decide), zup_ne _ _ _ (by decide), zrw_in _ _ _ (Nat.zero_le _) hy]
  have j91 : ∀ q, q ≠ to → J5 90 q = J 90 q := fun q hq => by rw [p1.1 90 (by decide) (by decide), zup_nb _ _ _ (by decide), zup_self_ne _ _ _ hq, zrw_ne _ _ _ _ (by decide), zrw_ne _ _ _ _ (by decide)]
  have j91to : J5 90 to = 0 := by rw [p1.1 90 (by decide) (by decide), zup_nb _ _ _ (by decide), zup_self]
  have jb : ∀ x, x ≠ 89 → x ≠ 90 → x ≠ 92 → x ≠ 93 → x < 107 ∨ 111 < x → J5 x = J x := fun x h1 h2 h3 h4 h5 => by rw [p1.1 x h1 h5, zup_ne _ _ _ h1, zup_ne _ _ _ h2, zrw_ne _ _ _ _ h4, zrw_ne _ _ _ _ h3]
  have j90 : ∀ k, k ≠ 29 → J5 89 k = J 89 k := fun k hk => by rw [p1.2.1 k hk, zup_self_ne _ _ _ hk, zup_nb _ _ _ (by decide), zrw_ne _ _ _ _ (by decide), zrw_ne _ _ _ _ (by decide)]
  have eJ : f_X7_joins F zKm J RM 89 (nI a) (nI b) (nI to) = f_X7_joins_39 F zKm RM 89 F J5 (nI a) (nI b) (nI to) := by
    unfold f_X7_joins
    rw [r5, zbd_s, c1, zbd_s, r6, zbd_s, c2, zbd_s, r0, zbd_s, zd91, zbd_s, zwr_s (by rw [zKm91]; show to < 5751; omega) (by decide), zbd_s, zbd_s, X7_pushes (s := 0) hRM (by decide) (show zup (zup (zrw (zrw J 92 0 (tn T) (fun j => nI (tsp T j))) 93 0 (tn U) (fun j => nI (tsp U j))) 90 to (0 : Int32)) 89 29 (0 : Int32) 89 29 = nI 0 from zup_self _ _ _ _) (Or.inl rfl), zbd_s, hJ5]
  have fJ : ∀ {J'}, zJfJ to J5 J' → zJoJ to J J' := fun {J'} h => ⟨fun c b1 b2 b3 b4 b5 => by rw [h.1 c b1 b2 b5, jb c b1 b2 b3 b4 (by omega)], fun k k1 k2 => by rw [h.2.1 k k1 k2, j90 k k2], fun x hx => by rw [h.2.2 x hx, j91 x (by omega)]⟩
  have h5 : gJS J5 a b to T U hd [] [] := ⟨zTm_keep hTm (fun x hx => j91 _ (by omega)) hT.1.2.1, zTm_keep hUm (fun x hx => j91 _ (by omega)) hU.1.2.1, j93, j94, ⟨Nat.zero_le _, by rw [j90 16 (by decide)]; exact h16, fun h e he => by simp at he⟩, ⟨j91to, fun i v hv => by simp at hv⟩, by rw [j91 777 (by omega)]; exact h777, by rw [j91 776 (by omega)]; exact hhd⟩
  rcases gLoop (F := F) (hd := hd) (by omega) hRM hr hT hU hT3 hU3 A B 0 0 0 0 0 [] [] J5 aP aA (by rw [h1, h2]) (by omega) (by omega) (by omega) (by show 0 + _ ≤ _; omega) h5 (by rw [p2, h1]) (fun y hy => by
      rw [h1] at hy ⊢
      obtain rfl : y = 0 := by omega
      exact p3) with ⟨m1, n, J', m2, m3, m4⟩ | ⟨P, tb, J', m1, m2, m3, m4, m5, m6⟩
  · refine ⟨0, J', ?_, fJ m4, Or.inl ⟨m1, rfl⟩⟩
    rw [eJ, show f_X7_joins_39 F zKm RM 89 F J5 (nI a) (nI b) (nI to) = f_X7_joins_39 F zKm RM 89 (F - n + n) J5 (nI a) (nI b) (nI to) by rw [show F - n + n = F by omega]]
    exact m3 _
  · have hP := jn_len _ _ _ _ _ _ _ m1
    refine ⟨1, J', ?_, fJ m5, Or.inr ⟨P, tb, m1, rfl, gRow_tm m3.2.2.2.2.2.1, m3.2.2.2.2.1⟩⟩
    rw [eJ, show f_X7_joins_39 F zKm RM 89 F J5 (nI a) (nI b) (nI to) = f_X7_joins_39 F zKm RM 89 (F - 1 - qSz P + 1 + qSz P) J5 (nI a) (nI b) (nI to) by rw [show F - 1 - qSz P + 1 + qSz P = F by omega], m2]
    show g_X7_joins_39 F zKm RM 89 _ J' (nI a) (nI b) (nI to) = _
    unfold g_X7_joins_39
    rw [m4, if_pos (by decide)]
end GMW
