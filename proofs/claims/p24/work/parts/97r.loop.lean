/-! put(): the Shaper's counts, the loop from the last node on -/
section ZPR
variable {F n : Nat} {K : zK} {R : zR} {p : Nat} {T : Tm} {fb : Nat → Bool} {x2 : Int32}
/-- the state behind a node -/
def aCn (fb : Nat → Bool) (s g : Nat) (k : aFo) (i : Nat) (I : zI) : zI := zup (zup (aSet fb s g k (i + 1) I) 17 i (nI (qLn (qFl fb s g k)))) 18 i (nI (qSq (qFl fb s g k)))
theorem aCn_ne {s g i : Nat} {k : aFo} {I : zI} {a x : Nat} (h : (a ≠ 16 ∧ a ≠ 17 ∧ a ≠ 18) ∨ x < i ∨ i + 1 + qSz k ≤ x) : aCn fb s g k i I a x = I a x := by
  unfold aCn
  by_cases h16 : a = 16
  · rw [h16, zup_ne _ _ _ (by decide), zup_ne _ _ _ (by decide), aSet_out _ _ _ _ (by omega)]
  · by_cases h17 : a = 17
    · rw [h17, zup_ne _ _ _ (by decide), zup_self_ne _ _ _ (by omega), aSet_ne _ _ _ _ (by decide)]
    · by_cases h18 : a = 18
      · rw [h18, zup_self_ne _ _ _ (by omega), zup_ne _ _ _ (by decide), aSet_ne _ _ _ _ (by decide)]
      · rw [zup_ne _ _ _ h18, zup_ne _ _ _ h17, aSet_ne _ _ _ _ h16]
theorem X3_count (hF : 100 ≤ F) (hS : aSh K R) (hp : 92 ≤ p) (hT : tWF T) (hfb : ∀ v, fb v = true ↔ aBt x2 v) {i d : Nat} {k : aFo} {I : zI} (hi : i < tn T) (hc : zTc K I R p T) (hf : aTf T k (i + 1) d) (hk : tr T i = qLn k) (hb : i + 1 + qSz k ≤ tn T) (hD : aDn I fb k (i + 1)) : f_X3_countArguments F K I R 15 (some p) (nI i) x2 = some (if qLn (qFl fb (ts T i) (tg T i) k) ≤ 8 ∧ qSq (qFl fb (ts T i) (tg T i) k) ≤ 1 then 1 else 0, aCn fb (ts T i) (tg T i) k i I) := by
  have h32 : tn T ≤ 32 := hT.1.2.1
  have hlk := q_len_sz k
  have l1 := q_sz_fl (fb := fb) k (ts T i) (tg T i)
  have l2 := q_len_sz (qFl fb (ts T i) (tg T i) k)
  have l3 := q_sq_len (qFl fb (ts T i) (tg T i) k)
  have e172 : f_X3_countArguments_172 F K R 15 (aSet fb (ts T i) (tg T i) k (i + 1) I) (nI i) (nI (0 + qLn (qFl fb (ts T i) (tg T i) k))) (nI (0 + qSq (qFl fb (ts T i) (tg T i) k))) = some (if qLn (qFl fb (ts T i) (tg T i) k) ≤ 8 ∧ qSq (qFl fb (ts T i) (tg T i) k) ≤ 1 then 1 else 0, aCn fb (ts T i) (tg T i) k i I) := by
    obtain ⟨k0, k1, k2, k3, r0, r1, r2⟩ := hS
    unfold f_X3_countArguments_172
    rw [Nat.zero_add, Nat.zero_add, r1, zbd_s, zdr_s (t := 1) (by rw [k2]), zbd_s, zwr_s (by rw [k2]; show i < 32; omega) (by rw [k2]; decide), zbd_s, r2, zbd_s, zdr_s (t := 1) (by rw [k3]), zbd_s, zwr_s (by rw [k3]; show i < 32; omega) (by rw [k3]; decide), zbd_s]
    by_cases c1 : qLn (qFl fb (ts T i) (tg T i) k) ≤ 8
    · rw [if_neg (show ¬ (8 : Int32) < nI (qLn (qFl fb (ts T i) (tg T i) k)) from fun hh => Int32.not_le.mpr hh (nI_le (b := 8) (by omega) (by omega)))]
      by_cases c2 : qSq (qFl fb (ts T i) (tg T i) k) ≤ 1
      · rw [if_neg (show ¬ (1 : Int32) < nI (qSq (qFl fb (ts T i) (tg T i) k)) from fun hh => Int32.not_le.mpr hh (nI_le (b := 1) (by omega) (by omega))), if_pos ⟨c1, c2⟩]
        rfl
      · rw [if_pos (show (1 : Int32) < nI (qSq (qFl fb (ts T i) (tg T i) k)) from Int32.not_le.mp (nI_ge (a := 1) (by omega) (by omega))), if_neg (fun hh => c2 hh.2)]
        rfl
    · rw [if_pos (show (8 : Int32) < nI (qLn (qFl fb (ts T i) (tg T i) k)) from Int32.not_le.mp (nI_ge (a := 8) (by omega) (by omega))), if_neg (fun hh => c1 hh.1)]
      rfl
  have e37 : ∀ x4 : Int32, (x4 = 0 ∨ x4 = 1) → (x4 = 1 ↔ ts T i = 0 ∧ fb (tg T i) = true) → f_X3_countArguments_37 F K R 15 I (some p) (nI i) x4 = some (if qLn (qFl fb (ts T i) (tg T i) k) ≤ 8 ∧ qSq (qFl fb (ts T i) (tg T i) k) ≤ 1 then 1 else 0, aCn fb (ts T i) (tg T i) k i I) := fun x4 h1 h2 => by
    unfold f_X3_countArguments_37
    rw [show (1 : Int32) = nI 1 from rfl, nI_add, zbd_s, zdr_s (t := 15) (by rw [hc.1]), zbd_s, X5_argumentsOf hc hT hi, zbd_s, hk, show (0 : Int32) = nI 0 from rfl]
    rw [count57 hS hp hT hi rfl rfl h1 h2 k (i + 1) d 0 0 F I hc hf hb hD (by omega)]
    exact e172
  have nd := hT.2.1 i hi
  unfold f_X3_countArguments
  rw [zo_0 (show (0 : Int32) ≤ nI i ∧ nI i ≤ 31 from ⟨nI_pos' (by omega), nI_le (b := 31) (by omega) (by omega)⟩), zbd_s, if_pos rfl, zdr_s (t := 15) (by rw [hc.1]), zbd_s, X5_sortOf hc hT hi, zbd_s]
  by_cases c1 : ts T i = 0
  · rw [if_pos ((ni0 (by omega)).mpr c1), X5_numberOf hc hT hi, zbd_s]
    by_cases c2 : aBt x2 (tg T i)
    · rw [if_pos c2]
      exact e37 1 (Or.inr rfl) ⟨fun _ => ⟨c1, (hfb _).mpr c2⟩, fun _ => rfl⟩
    · rw [if_neg c2]
      exact e37 0 (Or.inl rfl) ⟨fun h => absurd h (by decide), fun h => absurd ((hfb _).mp h.2) c2⟩
  · rw [if_neg (fun e => c1 ((ni0 (by omega)).mp e))]
    exact e37 0 (Or.inl rfl) ⟨fun h => absurd h (by decide), fun h => absurd h.1 c1⟩
/-- rows that the Shaper leaves -/
def aLv (b m : Nat) (I I' : zI) : Prop := ∀ a x, ((a ≠ 16 ∧ a ≠ 17 ∧ a ≠ 18) ∨ x < b ∨ b + m ≤ x) → I' a x = I a x
theorem flat28 (hF : 100 ≤ F) (hS : aSh K R) (hp : 92 ≤ p) (hT : tWF T) (hfb : ∀ v, fb v = true ↔ aBt x2 v) : ∀ (G : aFo) (b d f : Nat) (I : zI), aTf T G b d → b + qSz G ≤ tn T → zTc K I R p T → (∀ x, b ≤ x → x < b + qSz G → I 16 x = 0) → ∃ I', aLv b (qSz G) I I' ∧ (qOk fb G → f_X3_flattened_28 F 15 (f + qSz G) n K I R (some p) x2 (nI (b + qSz G) + (-1)) = f_X3_flattened_28 F 15 f n K I' R (some p) x2 (nI b + (-1)) ∧ aDn I' fb G b ∧ aFz I' G b) ∧ (¬ qOk fb G → f_X3_flattened_28 F 15 (f + qSz G) n K I R (some p) x2 (nI (b + qSz G) + (-1)) = some (none, n, K, I', R)) := by
  have h32 : tn T ≤ 32 := hT.1.2.1
  intro G
  induction G with
  | leaf _ =>
    intro b d f I hf hb hc hz
    exact ⟨I, fun _ _ _ => rfl, fun _ => ⟨rfl, True.intro, True.intro⟩, fun h => absurd True.intro h⟩
  | branch w k r ihk ihr =>
    intro b d f I hf hb hc hz
    have hb : b + (1 + qSz k + qSz r) ≤ tn T := hb
    have hz : ∀ x, b ≤ x → x < b + (1 + qSz k + qSz r) → I 16 x = 0 := hz
    have hbn : b < tn T := by omega
    obtain ⟨f1, f2, f3, f4, -⟩ := hf.1
    have ef : f + qSz (Lean.RArray.branch w k r) = (f + 1 + qSz k) + qSz r := by show f + (1 + qSz k + qSz r) = _; omega
    have eb : b + qSz (Lean.RArray.branch w k r) = b + 1 + qSz k + qSz r := by show b + (1 + qSz k + qSz r) = _; omega
    rw [ef, eb]
    obtain ⟨I1, v1, v2, v3⟩ := ihr (b + 1 + qSz k) d (f + 1 + qSz k) I hf.2.2 (by omega) hc (fun x h1 h2 => hz x (by omega) (by omega))
    by_cases o1 : qOk fb r
    case neg =>
      exact ⟨I1, fun a x hx => v1 a x (by rw [show qSz (Lean.RArray.branch w k r) = 1 + qSz k + qSz r from rfl] at hx; omega), fun h => absurd h.2.2 o1, fun _ => v3 o1⟩
    obtain ⟨w1, w2, w3⟩ := v2 o1
    have hc1 : zTc K I1 R p T := zTc_row hc hp (fun a ha => funext fun x => v1 a x (by omega)) (fun a _ => rfl)
    obtain ⟨I2, u1, u2, u3⟩ := ihk (b + 1) (d + 1) (f + 1) I1 hf.2.1 (by omega) hc1 (fun x h1 h2 => by rw [v1 16 x (by omega)]; exact hz x (by omega) (by omega))
    by_cases o2 : qOk fb k
    case neg =>
      exact ⟨I2, fun a x hx => by
        rw [show qSz (Lean.RArray.branch w k r) = 1 + qSz k + qSz r from rfl] at hx
        rw [u1 a x (by omega), v1 a x (by omega)], fun h => absurd h.2.1 o2, fun _ => w1.trans (u3 o2)⟩
    obtain ⟨t1, t2, t3⟩ := u2 o2
    have hc2 : zTc K I2 R p T := zTc_row hc1 hp (fun a ha => funext fun x => u1 a x (by omega)) (fun a _ => rfl)
    have hcnt := X3_count (F := F) (I := I2) hF hS hp hT hfb hbn hc2 hf.2.1 f3 (by omega) t2
    rw [f1, f2] at hcnt
    have hlv : aLv b (qSz (Lean.RArray.branch w k r)) I (aCn fb (w / 16) (w % 16) k b I2) := fun a x hx => by
      rw [show qSz (Lean.RArray.branch w k r) = 1 + qSz k + qSz r from rfl] at hx
      rw [aCn_ne (by omega), u1 a x (by omega), v1 a x (by omega)]
    refine ⟨aCn fb (w / 16) (w % 16) k b I2, hlv, fun ho => ⟨?_, ?_, ?_⟩, fun ho => ?_⟩
    · rw [w1, t1]
      show g_X3_flattened_28 F 15 (f_X3_flattened_28 F 15 f) n K I2 R (some p) x2 (nI (b + 1) + (-1)) = _
      unfold g_X3_flattened_28
      rw [nI_m1, if_neg (show ¬ nI b < (0 : Int32) from nI_pos (by omega)), if_pos (by rw [hS.1]), hcnt, zbd2_s, if_pos ho.1, if_neg (by decide)]
    · have e1 : ∀ x, b + 1 ≤ x → aCn fb (w / 16) (w % 16) k b I2 16 x = aSet fb (w / 16) (w % 16) k (b + 1) I2 16 x := fun x hx => by
        unfold aCn
        rw [zup_ne _ _ _ (by decide), zup_ne _ _ _ (by decide)]
      have e2 : ∀ x, b + 1 ≤ x → aCn fb (w / 16) (w % 16) k b I2 17 x = aSet fb (w / 16) (w % 16) k (b + 1) I2 17 x := fun x hx => by
        unfold aCn
        rw [zup_ne _ _ _ (by decide), zup_self_ne _ _ _ (by omega)]
      have e3 : ∀ x, b + 1 ≤ x → aCn fb (w / 16) (w % 16) k b I2 18 x = aSet fb (w / 16) (w % 16) k (b + 1) I2 18 x := fun x hx => by
        unfold aCn
        rw [zup_self_ne _ _ _ (by omega), zup_ne _ _ _ (by decide)]
      refine ⟨⟨?_, ?_⟩, ?_, ?_, ?_⟩
      · unfold aCn
        rw [zup_ne _ _ _ (by decide), zup_self]
      · unfold aCn
        rw [zup_self]
      · exact aFlg_congr k _ (fun x h1 h2 => e1 x h1) (aSet_flg k _ _ t3)
      · exact aDn_congr k _ (fun x h1 h2 => ⟨e1 x h1, e2 x h1, e3 x h1⟩) (aSet_dn k _ _ t2)
      · exact aDn_congr r _ (fun x h1 h2 => ⟨by rw [aCn_ne (by omega), u1 16 x (by omega)], by rw [aCn_ne (by omega), u1 17 x (by omega)], by rw [aCn_ne (by omega), u1 18 x (by omega)]⟩) w2
    · refine ⟨?_, aFz_congr r _ (fun x h1 h2 => by rw [aCn_ne (by omega), u1 16 x (by omega)]) w3⟩
      unfold aCn
      rw [zup_ne _ _ _ (by decide), zup_ne _ _ _ (by decide), aSet_out _ _ _ _ (Or.inl (by omega)), u1 16 b (by omega), v1 16 b (by omega)]
      exact hz b (Nat.le_refl _) (by omega)
    · rw [w1, t1]
      have hno : ¬ (qLn (qFl fb (w / 16) (w % 16) k) ≤ 8 ∧ qSq (qFl fb (w / 16) (w % 16) k) ≤ 1) := fun h => ho ⟨h, o2, o1⟩
      show g_X3_flattened_28 F 15 (f_X3_flattened_28 F 15 f) n K I2 R (some p) x2 (nI (b + 1) + (-1)) = _
      unfold g_X3_flattened_28
      rw [nI_m1, if_neg (show ¬ nI b < (0 : Int32) from nI_pos (by omega)), if_pos (by rw [hS.1]), hcnt, zbd2_s, if_neg hno, if_pos rfl]
end ZPR
