/-! THE GHOST'S CALLS THAT MATCH: covers, compare, filled, covered; and origin -/
def mv (P A : aFo) : Bool := (mt P A 0 (fun _ => none)).isSome
def mi (P A : aFo) : Int32 := if mv P A = true then 1 else 0
theorem mi_01 (P A : aFo) : (mi P A = 0 ∧ mv P A = false) ∨ (mi P A = 1 ∧ mv P A = true) := by
  unfold mi
  cases mv P A
  · exact Or.inl ⟨rfl, rfl⟩
  · exact Or.inr ⟨rfl, rfl⟩
/-- what filled() tells of a filling -/
def fv (f : pFl) (h w : Nat) : Int32 := match f h with | none => -9 | some v => if w = 0 then nI v.2 else nI (qSz v.1)
/-- what origin() tells of a table -/
def ov (tb : pTb) (h w : Nat) : Int32 := match tb[h]? with | none => -9 | some e => if w = 0 then nI e.2.2.2.1 else if w = 1 then nI (qSz e.2.1) else if w = 2 then nI e.2.2.2.2 else nI (qSz e.2.2.1)
/-- the registers that a pattern covers, from x on -/
def gCv (S : gSt) (P : aFo) : Nat → Int32 → Nat → Int32
  | 0, s, _ => s
  | d + 1, s, x => gCv S P d (match S x with | none => s | some A => if mv P A = true then s ||| ((1 : Int32) <<< (nI x &&& 31)) else s) (x + 1)
section GCA
variable {F : Nat} {J J' : zI} {RM : zR} {S : gSt} {c : Nat → Int32} {H : List (gSt × (Nat → Int32))} {r q o : Nat} {P A : aFo}
theorem gBl_fm (h : gBl (J 90) 0 S c) (hJ : zFrM J J') : gBl (J' 90) 0 S c := by rw [hJ.1 90 (by decide) (by decide) (by decide) (by decide)]; exact h
theorem gHi_fm (h : gHi J H) (hJ : zFrM J J') : gHi J' H := gHi_keep h (hJ.2 1 (by decide)) (fun q _ _ => by rw [hJ.1 90 (by decide) (by decide) (by decide) (by decide)])
theorem g_match (hF : 5000 ≤ F) (hRM : zRM RM) (hb : gBl (J 90) 0 S c) (hr : r < 8) (hq : q < 8) (hP : S r = some P) (hA : S q = some A) {hs : Nat → Nat} (hW : qW hs P) : ∃ J1, f_X7_matches F zKm J RM 89 (nI (97 * r)) (nI (97 * q)) = some (mi P A, J1) ∧ zFrM J J1 ∧ ∀ f, mt P A 0 (fun _ => none) = some f → gFl J1 (tmF A) hs f := by
  obtain ⟨a1, a2, a3⟩ := gBl_some hb hr hP
  obtain ⟨b1, b2, b3⟩ := gBl_some hb hq hA
  rcases gMatches (F := F) (J := J) (hs := hs) hF hRM (show 97 * r + 97 ≤ 5751 by omega) (show 97 * q + 97 ≤ 5751 by omega) (gGd_wf a1).1 (gGd_wf b1).1 (gGd_wf a1).2 (gGd_wf b1).2 a1.1 b1.1 hW a2 b2 with ⟨m1, J1, m2, m3⟩ | ⟨f, J1, m1, m2, m3, m4, -⟩
  · refine ⟨J1, ?_, m3, fun f hf => by rw [m1] at hf; cases hf⟩
    unfold mi mv
    rw [m1]
    exact m2
  · refine ⟨J1, ?_, m3, fun f' hf => by rw [m1] at hf; cases hf; exact m4⟩
    unfold mi mv
    rw [m1]
    exact m2
theorem g_match' (hF : 5000 ≤ F) (hRM : zRM RM) (hb : gBl (J 90) 0 S c) (hr : r < 8) (hq : q < 8) (hP : S r = some P) (hA : S q = some A) : ∃ J1, f_X7_matches F zKm J RM 89 (nI (97 * r)) (nI (97 * q)) = some (mi P A, J1) ∧ zFrM J J1 := by
  obtain ⟨hs, hW⟩ := (gBl_some hb hr hP).1.2.2.1
  obtain ⟨J1, a, b, -⟩ := g_match hF hRM hb hr hq hP hA hW
  exact ⟨J1, a, b⟩
theorem g_covers (hF : 5000 ≤ F) (hRM : zRM RM) (hb : gBl (J 90) 0 S c) (hh : gHi J H) (hr : r < 8) (hq : q < 8) (hP : S r = some P) (hA : S q = some A) : ∃ J1, f_X7_covers F zKm J RM 89 (nI r) (nI q) = some (mi P A, J1) ∧ gBl (J1 90) 0 S c ∧ gHi J1 H := by
  have hR0 : RM 89 0 = some 90 := hRM 89 0 (by decide) (by decide) (by decide)
  obtain ⟨J1, m1, m2⟩ := g_match' hF hRM hb hr hq hP hA
  refine ⟨J1, ?_, gBl_fm hb m2, gHi_fm hh m2⟩
  unfold f_X7_covers
  rw [X7_wrong0 hR0 hr hq (gBl_some hb hr hP).2.2 (gBl_some hb hq hA).2.2, zbd_s, if_pos rfl, nl97, nI_mul, nI_mul, m1, zbd2_s]
  rcases mi_01 P A with ⟨e, -⟩ | ⟨e, -⟩
  · rw [e, if_pos rfl]
  · rw [e, if_neg (by decide)]
theorem g_covers_e (hF : 5000 ≤ F) (hRM : zRM RM) (hb : gBl (J 90) 0 S c) (hr : r < 8) (hq : q < 8) (hP : S r = none ∨ S q = none) : f_X7_covers F zKm J RM 89 (nI r) (nI q) = some (-2, J) := by
  have hR0 : RM 89 0 = some 90 := hRM 89 0 (by decide) (by decide) (by decide)
  unfold f_X7_covers
  rw [X7_wrong2 hR0 hr hq (by
    rcases hP with e | e
    · exact Or.inl (gBl_none hb hr e)
    · exact Or.inr (gBl_none hb hq e)), zbd_s, if_neg (by decide)]
def cmpv (P Q : aFo) : Int32 := if mv P Q = true then (if mv Q P = true then 0 else 1) else (if mv Q P = true then 2 else 3)
theorem g_compare (hF : 5000 ≤ F) (hRM : zRM RM) (hb : gBl (J 90) 0 S c) (hh : gHi J H) (hr : r < 8) (hq : q < 8) (hP : S r = some P) (hA : S q = some A) : ∃ J1, f_X7_compare F zKm J RM 89 (nI r) (nI q) = some (cmpv P A, J1) ∧ gBl (J1 90) 0 S c ∧ gHi J1 H := by
  have hR0 : RM 89 0 = some 90 := hRM 89 0 (by decide) (by decide) (by decide)
  obtain ⟨J1, m1, m2⟩ := g_match' hF hRM hb hr hq hP hA
  have hb1 := gBl_fm hb m2
  obtain ⟨J2, m3, m4⟩ := g_match' hF hRM hb1 hq hr hA hP
  refine ⟨J2, ?_, gBl_fm hb1 m4, gHi_fm (gHi_fm hh m2) m4⟩
  unfold f_X7_compare
  rw [X7_wrong0 hR0 hr hq (gBl_some hb hr hP).2.2 (gBl_some hb hq hA).2.2, zbd_s, if_pos rfl, nl97, nI_mul, nI_mul, m1, zbd2_s, m3, zbd2_s]
  unfold cmpv
  rcases mi_01 P A with ⟨e, e'⟩ | ⟨e, e'⟩ <;> rcases mi_01 A P with ⟨f, f'⟩ | ⟨f, f'⟩ <;> rw [e, e', f, f'] <;> rfl
theorem g_filled (hF : 5000 ≤ F) (hRM : zRM RM) (hb : gBl (J 90) 0 S c) (hh : gHi J H) (hr : r < 8) (hq : q < 8) (hP : S r = some P) (hA : S q = some A) {f : pFl} (hf : mt P A 0 (fun _ => none) = some f) {h w : Nat} (hh10 : h < 10) (hw : w < 2) : ∃ J1, f_X7_filled F zKm J RM 89 (nI r) (nI q) (nI h) (nI w) = some (fv f h w, J1) ∧ gBl (J1 90) 0 S c ∧ gHi J1 H := by
  have hR0 : RM 89 0 = some 90 := hRM 89 0 (by decide) (by decide) (by decide)
  have q30 : RM 89 30 = some 112 := hRM 89 30 (by decide) (by decide) (by decide)
  have q31 : RM 89 31 = some 113 := hRM 89 31 (by decide) (by decide) (by decide)
  have k113 : zKm 112 = (1, 10) := rfl
  have k114 : zKm 113 = (1, 10) := rfl
  obtain ⟨hs, hW⟩ := (gBl_some hb hr hP).1.2.2.1
  have nA := (gGd_wf (gBl_some hb hq hA).1).1.1.2.1
  obtain ⟨J1, m1, m2, m3⟩ := g_match hF hRM hb hr hq hP hA hW
  have em : mi P A = 1 := by unfold mi mv; rw [hf]; rfl
  refine ⟨J1, ?_, gBl_fm hb m2, gHi_fm hh m2⟩
  have eJ : f_X7_filled F zKm J RM 89 (nI r) (nI q) (nI h) (nI w) = f_X7_filled_28 F zKm RM 89 J (nI r) (nI q) (nI h) (nI w) (some 89) (nI r) (nI q) 1 := by
    unfold f_X7_filled
    rw [zi_1 (show (0 : Int32) ≤ nI h ∧ nI h ≤ 9 from ⟨nI_pos' (by omega), nI_le (b := 9) (by omega) (by decide)⟩), zbd_s, if_neg (by decide), zi_1 (show (0 : Int32) ≤ nI w ∧ nI w ≤ 2 from ⟨nI_pos' (by omega), nI_le (b := 2) (by omega) (by decide)⟩), zbd_s, if_neg (by decide)]
  rw [eJ]
  unfold f_X7_filled_28
  rw [show zdr zKm (some 89) 17 = some 89 from rfl, zbd_s, X7_wrong0 hR0 hr hq (gBl_some hb hr hP).2.2 (gBl_some hb hq hA).2.2, zbd_s, if_pos rfl, nl97, nI_mul, nI_mul, m1, zbd2_s, em, if_neg (by decide)]
  simp only [zbd_s, q30, q31, zdr_s (show (zKm 112).1 = 1 from rfl), zdr_s (show (zKm 113).1 = 1 from rfl), zrd_s (K := zKm) (I := J1) (a := 112) (j := h) (by rw [k113]; exact hh10) (by rw [k113]; decide), zrd_s (K := zKm) (I := J1) (a := 113) (j := h) (by rw [k114]; exact hh10) (by rw [k114]; decide)]
  unfold fv
  rcases m3 f hf h hh10 with ⟨y1, y2⟩ | ⟨X, j, y1, y2, y3, y4⟩
  · rw [y1, y2, if_neg (by decide)]
  · have l := gQt_le y4
    have x1 : 1 ≤ qSz X := by
      rcases y4 with ⟨-, e, -⟩ | ⟨-, -, rfl⟩
      · have := q_len_sz X; omega
      · show 1 ≤ 1 + 0 + 0; omega
    rw [y1, y2, y3, if_pos (nI_pos' (by omega))]
    have h012 : w = 0 ∨ w = 1 := by omega
    rcases h012 with rfl | rfl
    · rw [if_neg (by decide), if_neg (by decide), if_neg (nI_ne0 (by omega) (by omega))]
      rfl
    · rfl
theorem g_cv (hF : 5000 ≤ F) (hRM : zRM RM) (hr : r < 8) (hP : S r = some P) : ∀ (d x f : Nat) (s : Int32) (J : zI), gBl (J 90) 0 S c → gHi J H → x + d = 8 → d < f → ∃ J1, f_X7_coveredBy_4 F zKm RM 89 f J (nI r) s (nI x) = some (gCv S P d s x, J1) ∧ gBl (J1 90) 0 S c ∧ gHi J1 H := by
  have hR0 : RM 89 0 = some 90 := hRM 89 0 (by decide) (by decide) (by decide)
  intro d
  induction d with
  | zero =>
    intro x f s J hb hh hx hf
    obtain ⟨f, rfl⟩ : ∃ g, f = g + 1 := ⟨f - 1, by omega⟩
    obtain rfl : x = 8 := by omega
    exact ⟨J, rfl, hb, hh⟩
  | succ d ih =>
    intro x f s J hb hh hx hf
    obtain ⟨f, rfl⟩ : ∃ g, f = g + 1 := ⟨f - 1, by omega⟩
    have hx8 : x < 8 := by omega
    have n8 : ¬ ((8 : Int32) ≤ nI x) := nI_ge (b := 8) (by omega) (by omega)
    have e7 : f_X7_coveredBy_4 F zKm RM 89 (f + 1) J (nI r) s (nI x) = if J 90 (97 * x) = 0 then f_X7_coveredBy_4 F zKm RM 89 f J (nI r) s (nI (x + 1)) else (zbd2 (f_X7_matches F zKm J RM 89 (nI (97 * r)) (nI (97 * x))) fun v6 I7 => if v6 = (0 : Int32) then f_X7_coveredBy_4 F zKm RM 89 f I7 (nI r) s (nI (x + 1)) else f_X7_coveredBy_4 F zKm RM 89 f I7 (nI r) (s ||| ((1 : Int32) <<< (nI x &&& 31))) (nI (x + 1))) := by
      show g_X7_coveredBy_4 F zKm RM 89 _ J (nI r) s (nI x) = _
      unfold g_X7_coveredBy_4 f_X7_coveredBy_40 f_X7_coveredBy_41
      rw [if_neg n8, X7_isEmpty hR0 hx8, zbd_s]
      simp only [zbd_s, Int32.or_zero, nI_1, nl97, nI_mul]
      by_cases h : J 90 (97 * x) = 0
      · rw [if_pos h, if_pos h, if_neg (by decide)]
      · rw [if_neg h, if_neg h, if_pos rfl]
    rw [e7, gCv]
    cases hS : S x with
    | none =>
      rw [if_pos (gBl_none hb hx8 hS)]
      exact ih (x + 1) f s J hb hh (by omega) (by omega)
    | some A =>
      obtain ⟨J1, m1, m2⟩ := g_match' hF hRM hb hr hx8 hP hS
      rw [if_neg (gBl_some hb hx8 hS).2.2, m1, zbd2_s]
      rcases mi_01 P A with ⟨e, e'⟩ | ⟨e, e'⟩
      · rw [e, if_pos rfl]
        show ∃ J1, _ = some (gCv S P d (if mv P A = true then _ else s) (x + 1), J1) ∧ _
        rw [if_neg (by rw [e']; decide)]
        exact ih (x + 1) f s J1 (gBl_fm hb m2) (gHi_fm hh m2) (by omega) (by omega)
      · rw [e, if_neg (by decide)]
        show ∃ J1, _ = some (gCv S P d (if mv P A = true then _ else s) (x + 1), J1) ∧ _
        rw [if_pos e']
        exact ih (x + 1) f _ J1 (gBl_fm hb m2) (gHi_fm hh m2) (by omega) (by omega)
theorem g_covered (hF : 5000 ≤ F) (hRM : zRM RM) (hb : gBl (J 90) 0 S c) (hh : gHi J H) (hr : r < 8) (hP : S r = some P) : ∃ J1, f_X7_covered F zKm J RM 89 (nI r) = some (gCv S P 8 0 0, J1) ∧ gBl (J1 90) 0 S c ∧ gHi J1 H := by
  have hR0 : RM 89 0 = some 90 := hRM 89 0 (by decide) (by decide) (by decide)
  obtain ⟨J1, a1, a2, a3⟩ := g_cv hF hRM hr hP 8 0 F 0 J hb hh (by decide) (by omega)
  refine ⟨J1, ?_, a2, a3⟩
  unfold f_X7_covered f_X7_coveredBy
  rw [X7_wrong0 hR0 hr hr (gBl_some hb hr hP).2.2 (gBl_some hb hr hP).2.2, zbd_s, if_pos rfl]
  have a1 : f_X7_coveredBy_4 F zKm RM 89 F J (nI r) 0 0 = some (gCv S P 8 0 0, J1) := a1
  rw [a1, zbd2_s]
theorem g_origin (hF : 5000 ≤ F) (hRM : zRM RM) (hb : gBl (J 90) 0 S c) (hh : gHi J H) {A B : aFo} (hr : r < 8) (hq : q < 8) (hA : S r = some A) (hB : S q = some B) (hc1 : c 1 = 0) {hd : Bool} (hc0 : c 0 = 1 ↔ hd = true) {Q : aFo} {tb : pTb} (hj : jn hd A B 0 0 [] = some (Q, tb)) {h w : Nat} (hh10 : h < 10) (hw : w < 4) :
    ∃ J1, f_X7_origin F zKm J RM 89 (nI r) (nI q) (nI h) (nI w) = some (ov tb h w, J1) ∧ gBl (J1 90) 0 S c ∧ gHi J1 [] := by
  have hR0 : RM 89 0 = some 90 := hRM 89 0 (by decide) (by decide) (by decide)
  obtain ⟨a1, a2, a3⟩ := gBl_some hb hr hA
  obtain ⟨b1, b2, b3⟩ := gBl_some hb hq hB
  have e90 : zup J 89 16 (0 : Int32) 90 = J 90 := zup_ne _ _ _ (by decide)
  obtain ⟨v, J1, j1, j2, j3⟩ := gJoins (F := F) (J := zup J 89 16 0) (hd := hd) hF hRM (gRw_regs hr hq (Nat.le_refl _) (by decide)) (gGd_wf a1).1 (gGd_wf b1).1 (gGd_wf a1).2 (gGd_wf b1).2 a1.1 b1.1 (by rw [e90]; exact a2) (by rw [e90]; exact b2) (zup_self _ _ _ _) (by rw [e90]; exact (gBl_c hb (k := 1) (by decide)).trans hc1) (by rw [e90, gBl_c hb (k := 0) (by decide)]; exact hc0)
  refine ⟨J1, ?_, gBl_jo hb (Nat.le_refl _) j2, gHi_nil (gHi_jo hh (Nat.le_refl _) j2)⟩
  have eJ : f_X7_origin F zKm J RM 89 (nI r) (nI q) (nI h) (nI w) = f_X7_origin_28 F zKm RM 89 J (nI r) (nI q) (nI h) (nI w) (some 89) (nI r) (nI q) 1 := by
    unfold f_X7_origin
    rw [zi_1 (show (0 : Int32) ≤ nI h ∧ nI h ≤ 9 from ⟨nI_pos' (by omega), nI_le (b := 9) (by omega) (by decide)⟩), zbd_s, if_neg (by decide), zi_1 (show (0 : Int32) ≤ nI w ∧ nI w ≤ 3 from ⟨nI_pos' (by omega), nI_le (b := 3) (by omega) (by decide)⟩), zbd_s, if_neg (by decide)]
  have e7 : f_X7_origin_28 F zKm RM 89 J (nI r) (nI q) (nI h) (nI w) (some 89) (nI r) (nI q) 1 = (zbd (f_X7_wrong F zKm J RM 89 (nI r) (nI q) 1) fun v4 => if v4 = (0 : Int32) then (zbd2 (f_X7_joins F zKm (zup J 89 16 0) RM 89 (nI (97 * r)) (nI (97 * q)) (nI 5460)) fun v8 I9 => if v8 = (0 : Int32) then some ((-3 : Int32), I9) else (if (I9 89 16) ≤ nI h then some ((-9 : Int32), I9) else (zbd (f_X7_originOf F zKm I9 RM 89 (nI h) (nI w)) fun v13 => some (v13, I9)))) else some (v4, J)) := by
    unfold f_X7_origin_28
    rw [show zdr zKm (some 89) 17 = some 89 from rfl, zbd_s]
    simp only [zbd_s, nl97, nI_mul]
    rfl
  rw [eJ, e7, X7_wrong0 hR0 hr hq a3 b3, zbd_s, if_pos rfl, j1, zbd2_s]
  rcases j3 with ⟨k1, -⟩ | ⟨P, tb', k1, rfl, -, k2, k3, k4⟩
  · rw [hj] at k1; cases k1
  · rw [hj] at k1
    cases k1
    rw [if_neg (by decide), k3]
    have q19 : RM 89 19 = some 102 := hRM 89 19 (by decide) (by decide) (by decide)
    have q20 : RM 89 20 = some 103 := hRM 89 20 (by decide) (by decide) (by decide)
    have q22 : RM 89 22 = some 105 := hRM 89 22 (by decide) (by decide) (by decide)
    have q23 : RM 89 23 = some 106 := hRM 89 23 (by decide) (by decide) (by decide)
    unfold ov
    rcases Nat.lt_or_ge h tb.length with hl | hl
    · have he : tb[h]? = some tb[h] := List.getElem?_eq_getElem hl
      obtain ⟨⟨g1, g2, g3, g4, g5, g6, g7⟩, g8, g9⟩ := k4 h _ he
      rw [he, if_neg (nI_ge hl (by omega))]
      generalize tb[h] = e at *
      have n1 : ∀ {T : Tm} {s i : Nat} {X : aFo}, tWF T → gPt T s X i → ¬ nI (qSz X) = (0 : Int32) := fun {T s i X} hT hp => by
        have l := gPt_le hp
        have l2 := hT.1.2.1
        have x1 : 1 ≤ qSz X := by
          rcases hp with ⟨-, e, -⟩ | ⟨-, -, -, rfl⟩
          · have := q_len_sz X; omega
          · show 1 ≤ 1 + 0 + 0; omega
        exact nI_ne0 (by omega) (by omega)
      have m1 := n1 (gGd_wf a1).1 g8
      have m2 := n1 (gGd_wf b1).1 g9
      have z103 : zrd zKm J1 102 (nI h) = some (nI e.2.2.2.1) := by rw [zrd_s hh10 (by decide), g3]
      have z104 : zrd zKm J1 103 (nI h) = some (nI (qSz e.2.1)) := by rw [zrd_s hh10 (by decide), g4]
      have z106 : zrd zKm J1 105 (nI h) = some (nI e.2.2.2.2) := by rw [zrd_s hh10 (by decide), g6]
      have z107 : zrd zKm J1 106 (nI h) = some (nI (qSz e.2.2.1)) := by rw [zrd_s hh10 (by decide), g7]
      have hw4 : w = 0 ∨ w = 1 ∨ w = 2 ∨ w = 3 := by omega
      unfold f_X7_originOf f_X7_originOf_20 f_X7_originOf_41
      simp only [q19, q20, q22, q23, zbd_s, show zdr zKm (some 102) 1 = some 102 from rfl, show zdr zKm (some 103) 1 = some 103 from rfl, show zdr zKm (some 105) 1 = some 105 from rfl, show zdr zKm (some 106) 1 = some 106 from rfl, z103, z104, z106, z107]
      rcases hw4 with rfl | rfl | rfl | rfl
      · show (zbd (if nI (qSz e.2.1) = (0 : Int32) then some (-9 : Int32) else some (nI e.2.2.2.1)) fun v13 => some (v13, J1)) = _
        rw [if_neg m1]; rfl
      · rfl
      · show (zbd (if nI (qSz e.2.2.1) = (0 : Int32) then some (-9 : Int32) else some (nI e.2.2.2.2)) fun v13 => some (v13, J1)) = _
        rw [if_neg m2]; rfl
      · rfl
    · rw [if_pos (nI_le hl (by omega)), List.getElem?_eq_none hl]
end GCA
