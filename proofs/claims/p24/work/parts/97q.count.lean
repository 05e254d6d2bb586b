/-! put(): the Shaper counts the arguments that a node has when it is flat -/
/-- flags of the roots below a parent (s, g) -/
def aFlg (I : zI) (fb : Nat → Bool) (s g : Nat) : aFo → Nat → Prop
  | .leaf _, _ => True
  | .branch w k r, b => (I 16 b = if qDs fb s g (w / 16) (w % 16) (qLn k) then 1 else 0) ∧ aFlg I fb s g r (b + 1 + qSz k)
/-- no root has a flag -/
def aFz (I : zI) : aFo → Nat → Prop
  | .leaf _, _ => True
  | .branch _ k r, b => I 16 b = 0 ∧ aFz I r (b + 1 + qSz k)
/-- all is counted; roots have no flag yet -/
def aDn (I : zI) (fb : Nat → Bool) : aFo → Nat → Prop
  | .leaf _, _ => True
  | .branch w k r, b => (I 17 b = nI (qLn (qFl fb (w / 16) (w % 16) k)) ∧ I 18 b = nI (qSq (qFl fb (w / 16) (w % 16) k))) ∧ aFlg I fb (w / 16) (w % 16) k (b + 1) ∧ aDn I fb k (b + 1) ∧ aDn I fb r (b + 1 + qSz k)
/-- the roots get their flags -/
def aSet (fb : Nat → Bool) (s g : Nat) : aFo → Nat → zI → zI
  | .leaf _, _, I => I
  | .branch w k r, b, I => aSet fb s g r (b + 1 + qSz k) (if qDs fb s g (w / 16) (w % 16) (qLn k) then zup I 16 b 1 else I)
section ZPQ
variable {F : Nat} {K : zK} {I I' : zI} {R : zR} {p : Nat} {T : Tm} {fb : Nat → Bool} {s g : Nat}
theorem aFlg_congr : ∀ (G : aFo) (b : Nat), (∀ x, b ≤ x → x < b + qSz G → I' 16 x = I 16 x) → aFlg I fb s g G b → aFlg I' fb s g G b := by
  intro G
  induction G with
  | leaf _ => intro b _ _; exact True.intro
  | branch w k r _ ih =>
    intro b h hf
    have h : ∀ x, b ≤ x → x < b + (1 + qSz k + qSz r) → I' 16 x = I 16 x := h
    exact ⟨by rw [h b (Nat.le_refl _) (by omega)]; exact hf.1, ih _ (fun x h1 h2 => h x (by omega) (by omega)) hf.2⟩
theorem aFz_congr : ∀ (G : aFo) (b : Nat), (∀ x, b ≤ x → x < b + qSz G → I' 16 x = I 16 x) → aFz I G b → aFz I' G b := by
  intro G
  induction G with
  | leaf _ => intro b _ _; exact True.intro
  | branch w k r _ ih =>
    intro b h hf
    have h : ∀ x, b ≤ x → x < b + (1 + qSz k + qSz r) → I' 16 x = I 16 x := h
    exact ⟨by rw [h b (Nat.le_refl _) (by omega)]; exact hf.1, ih _ (fun x h1 h2 => h x (by omega) (by omega)) hf.2⟩
theorem aDn_congr : ∀ (G : aFo) (b : Nat), (∀ x, b ≤ x → x < b + qSz G → I' 16 x = I 16 x ∧ I' 17 x = I 17 x ∧ I' 18 x = I 18 x) → aDn I fb G b → aDn I' fb G b := by
  intro G
  induction G with
  | leaf _ => intro b _ _; exact True.intro
  | branch w k r ihk ihr =>
    intro b h hf
    have h : ∀ x, b ≤ x → x < b + (1 + qSz k + qSz r) → I' 16 x = I 16 x ∧ I' 17 x = I 17 x ∧ I' 18 x = I 18 x := h
    obtain ⟨-, e2, e3⟩ := h b (Nat.le_refl _) (by omega)
    exact ⟨⟨by rw [e2]; exact hf.1.1, by rw [e3]; exact hf.1.2⟩, aFlg_congr k _ (fun x h1 h2 => (h x (by omega) (by omega)).1) hf.2.1, ihk _ (fun x h1 h2 => h x (by omega) (by omega)) hf.2.2.1, ihr _ (fun x h1 h2 => h x (by omega) (by omega)) hf.2.2.2⟩
theorem aSet_ne : ∀ (G : aFo) (b : Nat) (I : zI) (a : Nat), a ≠ 16 → aSet fb s g G b I a = I a := by
  intro G
  induction G with
  | leaf _ => intro b I a _; rfl
  | branch w k r _ ih =>
    intro b I a ha
    show aSet fb s g r (b + 1 + qSz k) _ a = _
    rw [ih _ _ _ ha]
    by_cases h : qDs fb s g (w / 16) (w % 16) (qLn k)
    · rw [if_pos h, zup_ne _ _ _ ha]
    · rw [if_neg h]
theorem aSet_out : ∀ (G : aFo) (b : Nat) (I : zI) (x : Nat), x < b ∨ b + qSz G ≤ x → aSet fb s g G b I 16 x = I 16 x := by
  intro G
  induction G with
  | leaf _ => intro b I x _; rfl
  | branch w k r _ ih =>
    intro b I x hx
    have hx : x < b ∨ b + (1 + qSz k + qSz r) ≤ x := hx
    show aSet fb s g r (b + 1 + qSz k) _ 16 x = _
    rw [ih _ _ _ (by omega)]
    by_cases h : qDs fb s g (w / 16) (w % 16) (qLn k)
    · rw [if_pos h, zup_self_ne _ _ _ (by omega)]
    · rw [if_neg h]
theorem aSet_flg : ∀ (G : aFo) (b : Nat) (I : zI), aFz I G b → aFlg (aSet fb s g G b I) fb s g G b := by
  intro G
  induction G with
  | leaf _ => intro b I _; exact True.intro
  | branch w k r _ ih =>
    intro b I hz
    refine ⟨?_, ih _ _ ?_⟩
    · show aSet fb s g r (b + 1 + qSz k) _ 16 b = _
      rw [aSet_out _ _ _ _ (Or.inl (by omega))]
      by_cases h : qDs fb s g (w / 16) (w % 16) (qLn k)
      · rw [if_pos h, if_pos h, zup_self]
      · rw [if_neg h, if_neg h]; exact hz.1
    · refine aFz_congr r _ (fun x h1 h2 => ?_) hz.2
      by_cases h : qDs fb s g (w / 16) (w % 16) (qLn k)
      · rw [if_pos h, zup_self_ne _ _ _ (by omega)]
      · rw [if_neg h]
theorem aSet_dn : ∀ (G : aFo) (b : Nat) (I : zI), aDn I fb G b → aDn (aSet fb s g G b I) fb G b := by
  intro G
  induction G with
  | leaf _ => intro b I _; exact True.intro
  | branch w k r _ ih =>
    intro b I h
    obtain ⟨J, hJ⟩ : ∃ x : zI, x = if qDs fb s g (w / 16) (w % 16) (qLn k) then zup I 16 b 1 else I := ⟨_, rfl⟩
    have e1 : ∀ a x, a ≠ 16 ∨ x ≠ b → J a x = I a x := fun a x hx => by
      rw [hJ]
      by_cases h : qDs fb s g (w / 16) (w % 16) (qLn k)
      · rw [if_pos h]
        by_cases ha : a = 16
        · rw [ha, zup_self_ne _ _ _ (by omega)]
        · rw [zup_ne _ _ _ ha]
      · rw [if_neg h]
    show aDn (aSet fb s g r (b + 1 + qSz k) _) fb (Lean.RArray.branch w k r) b
    rw [← hJ]
    have e2 : ∀ a x, (a ≠ 16 ∨ x < b ∨ (b < x ∧ x < b + 1 + qSz k)) → aSet fb s g r (b + 1 + qSz k) J a x = I a x := fun a x hx => by
      by_cases ha : a = 16
      · rw [ha, aSet_out _ _ _ _ (Or.inl (by omega)), e1 16 x (by omega)]
      · rw [aSet_ne _ _ _ _ ha, e1 a x (Or.inl ha)]
    refine ⟨⟨by rw [e2 17 b (Or.inl (by decide))]; exact h.1.1, by rw [e2 18 b (Or.inl (by decide))]; exact h.1.2⟩, ?_, ?_, ?_⟩
    · exact aFlg_congr k _ (fun x h1 h2 => e2 16 x (by omega)) h.2.1
    · exact aDn_congr k _ (fun x h1 h2 => ⟨e2 16 x (by omega), e2 17 x (by omega), e2 18 x (by omega)⟩) h.2.2.1
    · exact ih _ _ (aDn_congr r _ (fun x h1 h2 => ⟨e1 16 x (by omega), e1 17 x (by omega), e1 18 x (by omega)⟩) h.2.2.2)
/-- where the Shaper's rows lie -/
def aSh (K : zK) (R : zR) : Prop := K 15 = (13, 0) ∧ K 16 = (2, 32) ∧ K 17 = (1, 32) ∧ K 18 = (1, 32) ∧ R 15 0 = some 16 ∧ R 15 1 = some 17 ∧ R 15 2 = some 18
theorem count57 (hS : aSh K R) (hp : 92 ≤ p) (hT : tWF T) {i : Nat} (hi : i < tn T) (hs : ts T i = s) (hg : tg T i = g) {x4 : Int32} (hx4 : x4 = 0 ∨ x4 = 1) (hx : x4 = 1 ↔ s = 0 ∧ fb g = true) : ∀ (r : aFo) (b d c q t : Nat) (I : zI), zTc K I R p T → aTf T r b d → b + qSz r ≤ tn T → aDn I fb r b → qLn r < t → f_X3_countArguments_57 F K R 15 t I (some p) (nI i) x4 (nI c) (nI q) (nI b) (nI (qLn r)) = f_X3_countArguments_172 F K R 15 (aSet fb s g r b I) (nI i) (nI (c + qLn (qFl fb s g r))) (nI (q + qSq (qFl fb s g r))) := by
  obtain ⟨k0, k1, k2, k3, r0, r1, r2⟩ := hS
  have h32 : tn T ≤ 32 := hT.1.2.1
  intro r
  induction r with
  | leaf _ =>
    intro b d c q t I hc hf hb hD ht
    obtain ⟨t, rfl⟩ : ∃ u, t = u + 1 := ⟨t - 1, by omega⟩
    show g_X3_countArguments_57 F K R 15 _ I (some p) (nI i) x4 (nI c) (nI q) (nI b) (nI 0) = _
    unfold g_X3_countArguments_57
    rw [if_pos (by decide)]
    rfl
  | branch w k r _ ih =>
    intro b d c q t I hc hf hb hD ht
    obtain ⟨t, rfl⟩ : ∃ u, t = u + 1 := ⟨t - 1, by omega⟩
    have ht : 1 + qLn r < t + 1 := ht
    have hb : b + (1 + qSz k + qSz r) ≤ tn T := hb
    have hbn : b < tn T := by omega
    obtain ⟨f1, f2, f3, f4, -⟩ := hf.1
    have hlr := q_len_sz r
    have hlk := q_len_sz k
    have nd := hT.2.1 b hbn
    have ndi := hT.2.1 i hi
    have hg12 : tg T b ≤ 12 := by
      by_cases h0 : ts T b = 0
      · exact nd.2.2.1 h0
      · have := nd.2.2.2.1 h0; omega
    have hgi12 : tg T i ≤ 12 := by
      by_cases h0 : ts T i = 0
      · exact ndi.2.2.1 h0
      · have := ndi.2.2.2.1 h0; omega
    have e155 : ∀ (I' : zI) (c' q' : Nat), zTc K I' R p T → f_X3_countArguments_155 F K R 15 (f_X3_countArguments_57 F K R 15 t) I' (some p) (nI i) x4 (nI c') (nI q') (nI b) (nI (1 + qLn r)) = f_X3_countArguments_57 F K R 15 t I' (some p) (nI i) x4 (nI c') (nI q') (nI (b + 1 + qSz k)) (nI (qLn r)) := fun I' c' q' hc' => by
      unfold f_X3_countArguments_155
      rw [zdr_s (t := 15) (by rw [hc'.1]), zbd_s, X5_spanOf hc' hT hbn, zbd_s, f4, nI_add, zbd_s, show b + (1 + qSz k) = b + 1 + qSz k by omega, Nat.add_comm 1, nI_m1]
    have e132 : f_X3_countArguments_132 F K R 15 (f_X3_countArguments_57 F K R 15 t) I (some p) (nI i) x4 (nI c) (nI q) (nI b) (nI (1 + qLn r)) = f_X3_countArguments_57 F K R 15 t I (some p) (nI i) x4 (nI (c + 1)) (nI (q + if w / 16 = 3 then 1 else 0)) (nI (b + 1 + qSz k)) (nI (qLn r)) := by
      unfold f_X3_countArguments_132 f_X3_countArguments_152
      rw [zdr_s (t := 15) (by rw [hc.1]), zbd_s, X5_sortOf hc hT hbn, zbd_s, f1, show (1 : Int32) = nI 1 from rfl, show (0 : Int32) = nI 0 from rfl, nI_add, nI_add, nI_add, zbd_s, zbd_s, e155 _ _ _ hc, e155 _ _ _ hc]
      by_cases e : w / 16 = 3
      · rw [if_pos ((ni3 (by omega)).mpr e), if_pos e]
      · rw [if_neg (fun hh => e ((ni3 (by omega)).mp hh)), if_neg e]
    show g_X3_countArguments_57 F K R 15 (f_X3_countArguments_57 F K R 15 t) I (some p) (nI i) x4 (nI c) (nI q) (nI b) (nI (1 + qLn r)) = _
    unfold g_X3_countArguments_57
    rw [if_neg (show ¬ nI (1 + qLn r) ≤ (0 : Int32) from nI_ge (a := 0) (by omega) (by omega)), if_neg (show ¬ (32 : Int32) ≤ nI b from nI_ge (b := 32) (by omega) (by omega)), e132]
    have hno : ¬ qDs fb s g (w / 16) (w % 16) (qLn k) → f_X3_countArguments_57 F K R 15 t I (some p) (nI i) x4 (nI (c + 1)) (nI (q + if w / 16 = 3 then 1 else 0)) (nI (b + 1 + qSz k)) (nI (qLn r)) = f_X3_countArguments_172 F K R 15 (aSet fb s g (Lean.RArray.branch w k r) b I) (nI i) (nI (c + qLn (qFl fb s g (Lean.RArray.branch w k r)))) (nI (q + qSq (qFl fb s g (Lean.RArray.branch w k r)))) := fun hn => by
      rw [ih (b + 1 + qSz k) d _ _ t I hc hf.2.2 (by omega) hD.2.2.2 (by omega), aSet, if_neg hn, qFl, if_neg hn, qLn, qSq, Nat.add_assoc c, Nat.add_assoc q]
    by_cases c1 : x4 = 0
    · rw [if_pos c1]
      exact hno (fun hd => by
        have : x4 = 1 := hx.mpr ⟨hd.2.1, by rw [← hd.2.2.1]; exact hd.2.2.2.2⟩
        rw [c1] at this
        exact absurd this (by decide))
    · rw [if_neg c1, zdr_s (t := 15) (by rw [hc.1]), zbd_s, X5_headOf hc hT hbn, zbd_s, X5_headOf hc hT hi, zbd_s, f1, f2, hs, hg]
      obtain ⟨s0, fbg⟩ := hx.mp (hx4.resolve_left c1)
      by_cases c2 : w / 16 * 16 + w % 16 = s * 16 + g
      · rw [if_pos (congrArg nI c2), X5_argumentsOf hc hT hbn, zbd_s, f3]
        by_cases c3 : 0 < qLn k
        · have hd : qDs fb s g (w / 16) (w % 16) (qLn k) := ⟨by omega, s0, by omega, c3, by rw [show w % 16 = g by omega]; exact fbg⟩
          have hc' : zTc K (zup I 16 b 1) R p T := zTc_row hc hp (fun a ha => zup_ne _ _ _ (by omega)) (fun a _ => rfl)
          rw [if_neg (show ¬ nI (qLn k) ≤ (0 : Int32) from nI_ge (a := 0) c3 (by omega)), r0, zbd_s, zdr_s (t := 2) (by rw [k1]), zbd_s, zwrZ_s (by rw [k1]; show b < 32; omega) (by rw [k1]; decide) (Or.inr rfl), zbd_s, r1, zbd_s, zdr_s (t := 1) (by rw [k2]), zbd_s, zrd_s (by rw [k2]; show b < 32; omega) (by rw [k2]; decide), zbd_s, zup_ne _ _ _ (by decide), hD.1.1, nI_add, zbd_s, r2, zbd_s, zdr_s (t := 1) (by rw [k3]), zbd_s, zrd_s (by rw [k3]; show b < 32; omega) (by rw [k3]; decide), zbd_s, zup_ne _ _ _ (by decide), hD.1.2, nI_add, zbd_s, e155 _ _ _ hc']
          rw [ih (b + 1 + qSz k) d _ _ t _ hc' hf.2.2 (by omega) (aDn_congr r _ (fun x h1 h2 => ⟨zup_self_ne _ _ _ (by omega), by rw [zup_ne _ _ _ (by decide)], by rw [zup_ne _ _ _ (by decide)]⟩) hD.2.2.2) (by omega), aSet, if_pos hd, qFl, if_pos hd, q_len_app, q_sq_app, Nat.add_assoc c, Nat.add_assoc q]
        · rw [if_pos (show nI (qLn k) ≤ (0 : Int32) from nI_le (b := 0) (by omega) (by omega))]
          rw [e132]
          exact hno (fun hd => c3 hd.2.2.2.1)
      · rw [if_neg (fun e => c2 (nI_inj (by omega) (by omega) e))]
        rw [e132]
        exact hno (fun hd => c2 (by rw [hd.1, hd.2.1, hd.2.2.1]))
end ZPQ
