/-! put(): two arguments compared on both sides -/
/-- the Shaper's term while it sorts: codes, and the spans of some nodes -/
def zTs (K : zK) (I : zI) (R : zR) (t : Nat) (T : Tm) (S : Nat → Prop) : Prop := zTk K I R t T ∧ ∀ j, j < tn T → S j → I (t + 2) j = nI (tsp T j)
section ZPU
variable {F : Nat} {K : zK} {I : zI} {R : zR} {p : Nat} {T : Tm} {J : zI} {RM : zR} {S : Nat → Prop}
theorem aDf : ∀ u, u < 64 → ∀ v, v < 64 → (nI u - nI v ≤ (0 : Int32) ↔ u ≤ v) ∧ (nI u - nI v = (0 : Int32) ↔ u = v) := by decide +kernel
theorem order31 (hRM : zRM RM) {m a b y u v : Nat} (hb : b < 32) (ha : a + m ≤ 32) (hb2 : b + m ≤ 32) (h93 : J 92 b = nI m) (hy : y < 3 * m) (hu : J 90 (5461 + 3 * b + y) = nI u) (hv : J 90 (5461 + 3 * a + y) = nI v) (t : Nat) : f_X7_order_31 F zKm J RM 89 (t + 1) (nI b) (nI a) (nI y) = if nI u - nI v = (0 : Int32) then f_X7_order_31 F zKm J RM 89 t (nI b) (nI a) (nI (y + 1)) else some (nI u - nI v) := by
  have r0 : RM 89 0 = some 90 := hRM 89 0 (by decide) (by decide) (by decide)
  have r5 : RM 89 5 = some 92 := hRM 89 5 (by decide) (by decide) (by decide)
  have K93 : zKm 92 = (1, 32) := rfl
  show g_X7_order_31 F zKm J RM 89 (f_X7_order_31 F zKm J RM 89 t) (nI b) (nI a) (nI y) = _
  unfold g_X7_order_31
  rw [r5, zbd_s, zdr_s (t := 1) (by rw [K93]), zbd_s, zrd_s (by rw [K93]; exact hb) (by rw [K93]; decide), zbd_s, h93, nl3, nI_mul, if_neg (nI_ge (by omega) (by omega)), r0, zbd_s, zd91, zbd_s, show (5461 : Int32) = nI 5461 from rfl, nI_mul, nI_add, nI_add, zrd_s (by rw [zKm91]; show _ < 5751; omega) (by decide), zbd_s, zbd_s, zd91, zbd_s, nI_mul, nI_add, nI_add, zrd_s (by rw [zKm91]; show _ < 5751; omega) (by decide), zbd_s, zbd_s, hu, hv, nI_1]
theorem order31_end (hRM : zRM RM) {m a b : Nat} (hb : b < 32) (hm : m ≤ 32) (h93 : J 92 b = nI m) (t : Nat) : f_X7_order_31 F zKm J RM 89 (t + 1) (nI b) (nI a) (nI (3 * m)) = some 0 := by
  have r5 : RM 89 5 = some 92 := hRM 89 5 (by decide) (by decide) (by decide)
  have K93 : zKm 92 = (1, 32) := rfl
  show g_X7_order_31 F zKm J RM 89 (f_X7_order_31 F zKm J RM 89 t) (nI b) (nI a) (nI (3 * m)) = _
  unfold g_X7_order_31
  rw [r5, zbd_s, zdr_s (t := 1) (by rw [K93]), zbd_s, zrd_s (by rw [K93]; exact hb) (by rw [K93]; decide), zbd_s, h93, nl3, nI_mul, if_pos (nI_le (by omega) (by omega))]
theorem cmp_both (hRM : zRM RM) (hN : tNc T) (hn : tn T ≤ 32) (h : zTk K I R p T) (hm : zTm (J 90) 5460 T) {a b m : Nat} (ha : a + m ≤ tn T) (hb : b + m ≤ tn T) (hbn : b < tn T) (h93 : J 92 b = nI m) : ∀ (d x t t' : Nat), x + d = m → d < t → 3 * d < t' → ∃ r r' : Int32, f_X5_compareNodes_35 F K I R p t (nI a) (some p) (nI b) (nI m) (nI x) = some r ∧ f_X7_order_31 F zKm J RM 89 t' (nI b) (nI a) (nI (3 * x)) = some r' ∧ (0 ≤ r ↔ r' ≤ 0) := by
  obtain ⟨h1, h2, h3, h4, h5, h6, h7, h8, h9⟩ := h
  intro d
  induction d with
  | zero =>
    intro x t t' hx ht ht'
    obtain ⟨t, rfl⟩ : ∃ u, t = u + 1 := ⟨t - 1, by omega⟩
    obtain ⟨t', rfl⟩ : ∃ u, t' = u + 1 := ⟨t' - 1, by omega⟩
    obtain rfl : x = m := by omega
    refine ⟨0, 0, ?_, order31_end hRM (by omega) (by omega) h93 t', by decide⟩
    show g_X5_compareNodes_35 F K I R p _ (nI a) (some p) (nI b) (nI x) (nI x) = _
    unfold g_X5_compareNodes_35
    rw [if_pos (nI_le (by omega) (by omega))]
  | succ d ih =>
    intro x t t' hx ht ht'
    obtain ⟨t, rfl⟩ : ∃ u, t = u + 1 := ⟨t - 1, by omega⟩
    obtain ⟨t', rfl⟩ : ∃ u, t' = u + 3 := ⟨t' - 3, by omega⟩
    obtain ⟨r, r', e1, e2, e3⟩ := ih (x + 1) t t' (by omega) (by omega) (by omega)
    obtain ⟨a1, a2, a3, a4, a5⟩ := tcode_ltc hN (show a + x < tn T by omega)
    obtain ⟨b1, b2, b3, b4, b5⟩ := tcode_ltc hN (show b + x < tn T by omega)
    obtain ⟨na1, na2, -⟩ := hN (a + x) (by omega)
    obtain ⟨nb1, nb2, -⟩ := hN (b + x) (by omega)
    have ca : tcode T (a + x) = ts T (a + x) * 256 + tg T (a + x) * 16 + tr T (a + x) := rfl
    have cb : tcode T (b + x) = ts T (b + x) * 256 + tg T (b + x) * 16 + tr T (b + x) := rfl
    obtain ⟨ma1, ma2, ma3⟩ := hm.2 (a + x) (by omega)
    obtain ⟨mb1, mb2, mb3⟩ := hm.2 (b + x) (by omega)
    have hgo : f_X5_compareNodes_35 F K I R p (t + 1) (nI a) (some p) (nI b) (nI m) (nI x) = if nI (tcode T (a + x)) = nI (tcode T (b + x)) then f_X5_compareNodes_35 F K I R p t (nI a) (some p) (nI b) (nI m) (nI (x + 1)) else if nI (tcode T (b + x)) ≤ nI (tcode T (a + x)) then some 1 else some (-1) := by
      show g_X5_compareNodes_35 F K I R p (f_X5_compareNodes_35 F K I R p t) (nI a) (some p) (nI b) (nI m) (nI x) = _
      unfold g_X5_compareNodes_35
      rw [if_neg (nI_ge (by omega) (by omega)), h5, zbd_s, zdr_s (t := 1) (by rw [h2]), zbd_s, nI_add, zrd_s (by rw [h2]; show a + x < 32; omega) (by rw [h2]; decide), zbd_s, zdr_s (t := 15) (by rw [h1]), zbd_s, h5, zbd_s, zdr_s (t := 1) (by rw [h2]), zbd_s, nI_add, zrd_s (by rw [h2]; show b + x < 32; omega) (by rw [h2]; decide), zbd_s, h9 (a + x) (by omega), h9 (b + x) (by omega), nI_1]
    have o1 := order31 (F := F) (J := J) hRM (m := m) (a := a) (b := b) (y := 3 * x) (u := ts T (b + x)) (v := ts T (a + x)) (by omega) (by omega) (by omega) h93 (by omega) (by rw [← mb1]; congr 1; omega) (by rw [← ma1]; congr 1; omega) (t' + 2)
    have o2 := order31 (F := F) (J := J) hRM (m := m) (a := a) (b := b) (y := 3 * x + 1) (u := tg T (b + x)) (v := tg T (a + x)) (by omega) (by omega) (by omega) h93 (by omega) (by rw [← mb2]; congr 1; omega) (by rw [← ma2]; congr 1; omega) (t' + 1)
    have o3 := order31 (F := F) (J := J) hRM (m := m) (a := a) (b := b) (y := 3 * x + 2) (u := tr T (b + x)) (v := tr T (a + x)) (by omega) (by omega) (by omega) h93 (by omega) (by rw [← mb3]; congr 1; omega) (by rw [← ma3]; congr 1; omega) t'
    have nop : ∀ {r2 : Int32} (P : Prop), (r2 ≤ 0 ↔ P) → (P ↔ tcode T (b + x) ≤ tcode T (a + x)) → tcode T (a + x) ≠ tcode T (b + x) → f_X7_order_31 F zKm J RM 89 (t' + 3) (nI b) (nI a) (nI (3 * x)) = some r2 → ∃ r r' : Int32, f_X5_compareNodes_35 F K I R p (t + 1) (nI a) (some p) (nI b) (nI m) (nI x) = some r ∧ f_X7_order_31 F zKm J RM 89 (t' + 3) (nI b) (nI a) (nI (3 * x)) = some r' ∧ (0 ≤ r ↔ r' ≤ 0) := fun {r2} P hP hP2 hne ho => by
      rw [if_neg (fun e => hne (nI_inj (by omega) (by omega) e))] at hgo
      by_cases hle : tcode T (b + x) ≤ tcode T (a + x)
      · rw [if_pos (nI_le hle (by omega))] at hgo
        exact ⟨1, r2, hgo, ho, ⟨fun _ => hP.mpr (hP2.mpr hle), fun _ => by decide⟩⟩
      · rw [if_neg (nI_ge (by omega) (by omega))] at hgo
        exact ⟨-1, r2, hgo, ho, ⟨fun hh => absurd hh (by decide), fun hh => absurd (hP2.mp (hP.mp hh)) hle⟩⟩
    have hga : tg T (a + x) ≤ 15 := by omega
    have hgb : tg T (b + x) ≤ 15 := by omega
    obtain ⟨ds1, ds2⟩ := aDf (ts T (b + x)) (by omega) (ts T (a + x)) (by omega)
    obtain ⟨dg1, dg2⟩ := aDf (tg T (b + x)) (by omega) (tg T (a + x)) (by omega)
    obtain ⟨dr1, dr2⟩ := aDf (tr T (b + x)) (by omega) (tr T (a + x)) (by omega)
    by_cases q1 : ts T (b + x) = ts T (a + x)
    · rw [if_pos (ds2.mpr q1)] at o1
      by_cases q2 : tg T (b + x) = tg T (a + x)
      · rw [if_pos (dg2.mpr q2)] at o2
        by_cases q3 : tr T (b + x) = tr T (a + x)
        · rw [if_pos (dr2.mpr q3)] at o3
          rw [if_pos (by rw [ca, cb, q1, q2, q3])] at hgo
          refine ⟨r, r', hgo.trans e1, ?_, e3⟩
          rw [o1, o2, o3, show 3 * x + 2 + 1 = 3 * (x + 1) by omega]
          exact e2
        · rw [if_neg (fun e => q3 (dr2.mp e))] at o3
          exact nop _ dr1 (by omega) (by omega) (o1.trans (o2.trans o3))
      · rw [if_neg (fun e => q2 (dg2.mp e))] at o2
        exact nop _ dg1 (by omega) (by omega) (o1.trans o2)
    · rw [if_neg (fun e => q1 (ds2.mp e))] at o1
      exact nop _ ds1 (by omega) (by omega) o1
theorem order_both (hF : 200 ≤ F) (hRM : zRM RM) (hN : tNc T) (hT : tSh T) (h : zTs K I R p T S) (hm : zTm (J 90) 5460 T) (h93 : ∀ j, j < tn T → J 92 j = nI (tsp T j)) {a b : Nat} (ha : a < tn T) (hb : b < tn T) (sSa : S a) (sSb : S b) : ∃ (c : Bool) (r' : Int32), f_X3_precedes F K I R (some p) (nI a) (nI b) = some (if c = true then 1 else 0) ∧ f_X7_order F zKm J RM 89 (nI b) (nI a) = some r' ∧ (r' ≤ 0 ↔ c = false) := by
  have hn := hT.2.1
  have r5 : RM 89 5 = some 92 := hRM 89 5 (by decide) (by decide) (by decide)
  have K93 : zKm 92 = (1, 32) := rfl
  obtain ⟨sa, -⟩ := hT.2.2.2.1 a ha
  obtain ⟨sb, -⟩ := hT.2.2.2.1 b hb
  have pa := hT.2.2.1 a
  have pb := hT.2.2.1 b
  have eP : f_X3_precedes F K I R (some p) (nI a) (nI b) = if nI (tsp T a) = nI (tsp T b) then (zbd (f_X5_compareNodes F K I R p (nI a) (some p) (nI b) (nI (tsp T a))) fun v9 => if (0 : Int32) ≤ v9 then some (0 : Int32) else some (1 : Int32)) else if nI (tsp T b) ≤ nI (tsp T a) then some 0 else some 1 := by
    unfold f_X3_precedes
    rw [zdr_s (t := 15) (by rw [h.1.1]), zbd_s, X5_spanOf_k h.1 hn ha, zbd_s, X5_spanOf_k h.1 hn hb, zbd_s, h.2 a ha sSa, h.2 b hb sSb]
  have eO : f_X7_order F zKm J RM 89 (nI b) (nI a) = if nI (tsp T b) = nI (tsp T a) then f_X7_order_31 F zKm J RM 89 F (nI b) (nI a) 0 else some (nI (tsp T b) - nI (tsp T a)) := by
    unfold f_X7_order
    rw [r5, zbd_s, zdr_s (t := 1) (by rw [K93]), zbd_s, zrd_s (by rw [K93]; show b < 32; omega) (by rw [K93]; decide), zbd_s, zbd_s, zdr_s (t := 1) (by rw [K93]), zbd_s, zrd_s (by rw [K93]; show a < 32; omega) (by rw [K93]; decide), zbd_s, h93 b hb, h93 a ha, zbd_s, zdr_s (t := 1) (by rw [K93]), zbd_s, zrd_s (by rw [K93]; show b < 32; omega) (by rw [K93]; decide), zbd_s, zbd_s, zdr_s (t := 1) (by rw [K93]), zbd_s, zrd_s (by rw [K93]; show a < 32; omega) (by rw [K93]; decide), zbd_s, h93 b hb, h93 a ha]
  rw [eP, eO]
  obtain ⟨d1, d2⟩ := aDf (tsp T b) (by omega) (tsp T a) (by omega)
  by_cases q : tsp T a = tsp T b
  · rw [if_pos (congrArg nI q), if_pos (congrArg nI q.symm)]
    obtain ⟨r, r', e1, e2, e3⟩ := cmp_both (F := F) (m := tsp T a) hRM hN hn h.1 hm sa (by omega) hb (by rw [h93 b hb, q]) (tsp T a) 0 F F (by omega) (by omega) (by omega)
    have ec : f_X5_compareNodes F K I R p (nI a) (some p) (nI b) (nI (tsp T a)) = some r := by
      unfold f_X5_compareNodes
      rw [if_neg (nI_pos (by omega)), h.1.2.2.2.2.2.2.2.1, nI_sub (by omega), if_neg (Int32.not_lt.mpr (nI_le (by omega) (by omega))), if_neg (nI_pos (by omega)), zdr_s (t := 15) (by rw [h.1.1]), zbd_s, h.1.2.2.2.2.2.2.2.1, nI_sub (by omega), if_pos (nI_le (by omega) (by omega))]
      exact e1
    rw [ec, zbd_s]
    by_cases hr : (0 : Int32) ≤ r
    · exact ⟨false, r', by rw [if_pos hr]; rfl, e2, ⟨fun _ => rfl, fun _ => e3.mp hr⟩⟩
    · exact ⟨true, r', by rw [if_neg hr]; rfl, e2, ⟨fun hh => absurd (e3.mpr hh) hr, fun hh => absurd hh (by decide)⟩⟩
  · rw [if_neg (fun e => q (nI_inj (by omega) (by omega) e)), if_neg (fun e => q (nI_inj (by omega) (by omega) e).symm)]
    by_cases hle : tsp T b ≤ tsp T a
    · rw [if_pos (nI_le hle (by omega))]
      exact ⟨false, _, rfl, rfl, ⟨fun _ => rfl, fun _ => d1.mpr hle⟩⟩
    · rw [if_neg (nI_ge (by omega) (by omega))]
      exact ⟨true, _, rfl, rfl, ⟨fun hh => absurd (d1.mp hh) hle, fun hh => absurd hh (by decide)⟩⟩
end ZPU
