/-! put(): the Shaper appends the flat nodes -/
section ZPS
variable {F n m : Nat} {K : zK} {R : zR} {p : Nat} {T : Tm} {fb : Nat → Bool} {x2 : Int32} {hs : Nat → Nat}
/-- the code of node x -/
def qCo (G : aFo) (x : Nat) : Nat := (qNd G x).1 * 256 + (qNd G x).2.1 * 16 + (qNd G x).2.2
theorem aFlg_0 {I : zI} {s g : Nat} (h9 : s ≠ 0) : ∀ (G : aFo) (b : Nat), aFz I G b → aFlg I fb s g G b := by
  intro G
  induction G with
  | leaf _ => intro b _; exact True.intro
  | branch w k r _ ih =>
    intro b h
    exact ⟨by rw [if_neg (fun hd => h9 hd.2.1)]; exact h.1, ih _ h.2⟩
theorem qCo_app (a b : aFo) (x : Nat) : qCo (qAp a b) x = if x < qSz a then qCo a x else qCo b (x - qSz a) := by
  unfold qCo
  rw [q_nd_app]
  by_cases h : x < qSz a
  · rw [if_pos h, if_pos h]
  · rw [if_neg h, if_neg h]
theorem flat61 (hS : aSh K R) (hp : 92 ≤ p) (hpn : p + 4 ≤ n) (hT : tWF T) (kn : K n = (15, 0)) (kn1 : K (n + 1) = (1, 32)) (rn : R n 0 = some (n + 1)) : ∀ (G : aFo) (b d s g c f : Nat) (I : zI), aTf T G b d → b + qSz G ≤ tn T → aDn I fb G b → aFlg I fb s g G b → qOk fb G → zTc K I R p T → I n 3 = nI c → c ≤ b → ∃ I', f_X3_flattened_61 F 15 (f + qSz G) m K I R (some p) (some n) (nI b) = f_X3_flattened_61 F 15 f m K I' R (some p) (some n) (nI (b + qSz G)) ∧ I' n 3 = nI (c + qSz (qFl fb s g G)) ∧ (∀ x, x < c → I' (n + 1) x = I (n + 1) x) ∧ (∀ x, x < qSz (qFl fb s g G) → I' (n + 1) (c + x) = nI (qCo (qFl fb s g G) x)) ∧ (∀ a, a ≠ n → a ≠ n + 1 → I' a = I a) := by
  obtain ⟨k0, k1, k2, k3, r0, r1, r2⟩ := hS
  have h32 : tn T ≤ 32 := hT.1.2.1
  intro G
  induction G with
  | leaf _ =>
    intro b d s g c f I hf hb hD hL hO hc hn3 hcb
    exact ⟨I, rfl, hn3, fun _ _ => rfl, fun x hx => absurd hx (Nat.not_lt_zero _), fun _ _ _ => rfl⟩
  | branch w k r ihk ihr =>
    intro b d s g c f I hf hb hD hL hO hc hn3 hcb
    have hb : b + (1 + qSz k + qSz r) ≤ tn T := hb
    have hbn : b < tn T := by omega
    obtain ⟨f1, f2, f3, f4, -⟩ := hf.1
    have nd := hT.2.1 b hbn
    have hg12 : tg T b ≤ 12 := by
      by_cases h0 : ts T b = 0
      · exact nd.2.2.1 h0
      · have := nd.2.2.2.1 h0; omega
    have z1 := q_sz_fl (fb := fb) k (w / 16) (w % 16)
    have z2 := q_sz_fl (fb := fb) r s g
    rw [show f + qSz (Lean.RArray.branch w k r) = (f + qSz r + qSz k) + 1 from by show f + (1 + qSz k + qSz r) = _; omega]
    rw [show b + qSz (Lean.RArray.branch w k r) = b + 1 + qSz k + qSz r from by show b + (1 + qSz k + qSz r) = _; omega]
    have e61 : f_X3_flattened_61 F 15 ((f + qSz r + qSz k) + 1) m K I R (some p) (some n) (nI b) = if I 16 b = (0 : Int32) then (zbd2 (f_X5_append F K I R n (nI (w / 16 * 16 + w % 16)) (I 17 b)) fun v28 I29 => f_X3_flattened_61 F 15 (f + qSz r + qSz k) m K I29 R (some p) (some n) (nI (b + 1))) else f_X3_flattened_61 F 15 (f + qSz r + qSz k) m K I R (some p) (some n) (nI (b + 1)) := by
      show g_X3_flattened_61 F 15 (f_X3_flattened_61 F 15 (f + qSz r + qSz k)) m K I R (some p) (some n) (nI b) = _
      unfold g_X3_flattened_61 f_X3_flattened_105
      rw [zdr_s (t := 15) (by rw [hc.1]), zbd_s, hc.2.2.2.2.2.2.2.1, if_neg (nI_ge (by omega) (by omega)), if_neg (show ¬ (32 : Int32) ≤ nI b from nI_ge (b := 32) (by omega) (by omega)), if_pos (by rw [k0]), r0, zbd_s, zdr_s (t := 2) (by rw [k1]), zbd_s, zrd_s (by rw [k1]; show b < 32; omega) (by rw [k1]; decide), zbd_s, X5_headOf hc hT hbn, zbd_s, f1, f2, r1, zbd_s, zdr_s (t := 1) (by rw [k2]), zbd_s, zrd_s (by rw [k2]; show b < 32; omega) (by rw [k2]; decide), zbd_s, zdr_s (t := 15) (by rw [kn]), zbd_s, show (1 : Int32) = nI 1 from rfl, nI_add]
    rw [e61]
    have cong : ∀ (I' : zI), (∀ a, a ≠ n → a ≠ n + 1 → I' a = I a) → zTc K I' R p T ∧ aDn I' fb k (b + 1) ∧ aDn I' fb r (b + 1 + qSz k) ∧ aFlg I' fb (w / 16) (w % 16) k (b + 1) ∧ aFlg I' fb s g r (b + 1 + qSz k) := fun I' h' => by
      have e16 : I' 16 = I 16 := h' 16 (by omega) (by omega)
      have e17 : I' 17 = I 17 := h' 17 (by omega) (by omega)
      have e18 : I' 18 = I 18 := h' 18 (by omega) (by omega)
      refine ⟨zTc_keep hc (fun a a1 a2 => ⟨rfl, h' a (by omega) (by omega), rfl⟩), ?_, ?_, ?_, ?_⟩
      · exact aDn_congr k _ (fun x _ _ => by rw [e16, e17, e18]; exact ⟨rfl, rfl, rfl⟩) hD.2.2.1
      · exact aDn_congr r _ (fun x _ _ => by rw [e16, e17, e18]; exact ⟨rfl, rfl, rfl⟩) hD.2.2.2
      · exact aFlg_congr k _ (fun x _ _ => by rw [e16]) hD.2.1
      · exact aFlg_congr r _ (fun x _ _ => by rw [e16]) hL.2
    by_cases hd : qDs fb s g (w / 16) (w % 16) (qLn k)
    · rw [show I 16 b = 1 from by rw [hL.1, if_pos hd], if_neg (by decide)]
      obtain ⟨c1, c2, c3, c4, c5⟩ := cong I (fun _ _ _ => rfl)
      obtain ⟨I1, a1, a2, a3, a4, a5⟩ := ihk (b + 1) (d + 1) (w / 16) (w % 16) c (f + qSz r) I hf.2.1 (by omega) c2 c4 hO.2.1 c1 hn3 (by omega)
      obtain ⟨c1, c2, c3, c4, c5⟩ := cong I1 a5
      obtain ⟨I2, b1, b2, b3, b4, b5⟩ := ihr (b + 1 + qSz k) d s g (c + qSz (qFl fb (w / 16) (w % 16) k)) f I1 hf.2.2 (by omega) c3 c5 hO.2.2 c1 a2 (by omega)
      refine ⟨I2, a1.trans b1, ?_, fun x hx => by rw [b3 x (by omega), a3 x hx], fun x hx => ?_, fun a h1 h2 => by rw [b5 a h1 h2, a5 a h1 h2]⟩
      · rw [b2, qFl, if_pos hd, q_sz_app, Nat.add_assoc c]
      · rw [qFl, if_pos hd] at hx ⊢
        rw [q_sz_app] at hx
        rw [qCo_app]
        by_cases h1 : x < qSz (qFl fb (w / 16) (w % 16) k)
        · rw [if_pos h1, b3 _ (by omega), a4 x h1]
        · rw [if_neg h1, ← b4 _ (by omega)]
          congr 1
          omega
    · rw [show I 16 b = 0 from by rw [hL.1, if_neg hd], if_pos rfl, hD.1.1]
      obtain ⟨I0, hI0⟩ : ∃ x : zI, x = zup (zup I (n + 1) c (nI ((w / 16 * 16 + w % 16) * 16 + qLn (qFl fb (w / 16) (w % 16) k)))) n 3 (nI (c + 1)) := ⟨_, rfl⟩
      rw [X5_append_ok kn1 rn hn3 (by omega) (by omega) hO.1.1, zbd2_s, ← hI0]
      have u5 : ∀ a, a ≠ n → a ≠ n + 1 → I0 a = I a := fun a h1 h2 => by rw [hI0, zup_ne _ _ _ h1, zup_ne _ _ _ h2]
      obtain ⟨c1, c2, c3, c4, c5⟩ := cong I0 u5
      obtain ⟨I1, a1, a2, a3, a4, a5⟩ := ihk (b + 1) (d + 1) (w / 16) (w % 16) (c + 1) (f + qSz r) I0 hf.2.1 (by omega) c2 c4 hO.2.1 c1 (by rw [hI0, zup_self]) (by omega)
      obtain ⟨c1, c2, c3, c4, c5⟩ := cong I1 (fun a h1 h2 => by rw [a5 a h1 h2, u5 a h1 h2])
      obtain ⟨I2, b1, b2, b3, b4, b5⟩ := ihr (b + 1 + qSz k) d s g (c + 1 + qSz (qFl fb (w / 16) (w % 16) k)) f I1 hf.2.2 (by omega) c3 c5 hO.2.2 c1 a2 (by omega)
      refine ⟨I2, a1.trans b1, ?_, fun x hx => ?_, fun x hx => ?_, fun a h1 h2 => by rw [b5 a h1 h2, a5 a h1 h2, u5 a h1 h2]⟩
      · rw [b2, qFl, if_neg hd, qSz]
        congr 1
        omega
      · rw [b3 x (by omega), a3 x (by omega), hI0, zup_nb _ _ _ (by omega), zup_self_ne _ _ _ (by omega)]
      · rw [qFl, if_neg hd] at hx ⊢
        rw [qSz] at hx
        unfold qCo
        rw [qNd]
        by_cases h0 : x = 0
        · subst h0
          rw [if_pos rfl]
          show I2 (n + 1) c = _
          rw [b3 c (by omega), a3 c (by omega), hI0, zup_nb _ _ _ (by omega), zup_self]
          congr 1
          show _ = w / 16 * 256 + w % 16 * 16 + qLn (qFl fb (w / 16) (w % 16) k)
          omega
        · rw [if_neg h0]
          by_cases h1 : x ≤ qSz (qFl fb (w / 16) (w % 16) k)
          · rw [if_pos h1]
            have := a4 (x - 1) (by omega)
            unfold qCo at this
            rw [← this, b3 _ (by omega)]
            congr 1
            omega
          · rw [if_neg h1]
            have := b4 (x - 1 - qSz (qFl fb (w / 16) (w % 16) k)) (by omega)
            unfold qCo at this
            rw [← this]
            congr 1
            omega
theorem flat2 (hS : aSh K R) (hc : (K p).1 = 15) : ∀ (d x t : Nat) (I : zI), p ≠ 16 → x + d = 32 → d < t → f_X3_flattened_2 F 15 t n K I R (some p) x2 (nI x) = f_X3_flattened_28 F 15 F n K (zrw I 16 x 32 (fun _ => (0 : Int32))) R (some p) x2 (I p 3 + (-1)) := by
  obtain ⟨k0, k1, k2, k3, r0, r1, r2⟩ := hS
  intro d
  induction d with
  | zero =>
    intro x t I hp hx ht
    obtain ⟨t, rfl⟩ : ∃ u, t = u + 1 := ⟨t - 1, by omega⟩
    show g_X3_flattened_2 F 15 _ n K I R (some p) x2 (nI x) = _
    unfold g_X3_flattened_2
    rw [if_pos (show (32 : Int32) ≤ nI x from nI_le (a := 32) (by omega) (by omega)), zdr_s hc, zbd_s, zbd_s, zrw_end _ _ _ (by omega), Int32.sub_eq_add_neg]
  | succ d ih =>
    intro x t I hp hx ht
    obtain ⟨t, rfl⟩ : ∃ u, t = u + 1 := ⟨t - 1, by omega⟩
    show g_X3_flattened_2 F 15 (f_X3_flattened_2 F 15 t) n K I R (some p) x2 (nI x) = _
    unfold g_X3_flattened_2
    rw [if_neg (show ¬ (32 : Int32) ≤ nI x from nI_ge (b := 32) (by omega) (by omega)), if_pos (by rw [k0]), r0, zbd_s, zdr_s (t := 2) (by rw [k1]), zbd_s, zwrZ_s (by rw [k1]; show x < 32; omega) (by rw [k1]; decide) (Or.inl rfl), zbd_s, nI_1, ih (x + 1) t _ hp (by omega) (by omega), zrw_step I 16 (fun _ => (0 : Int32)) (by omega), zup_nb _ _ _ hp]
theorem tcode_co (G : aFo) (x : Nat) : tcode (tmF G) x = qCo G x := by
  unfold tcode qCo
  rw [q_ts_f, q_tg_f, q_tr_f]
theorem X3_flattened {I : zI} {G : aFo} (hF : 5000 ≤ F) (hS : aSh K R) (hp : 92 ≤ p) (hpn : p + 4 ≤ n) (hT : tWF T) (hc : zTc K I R p T) (hfb : ∀ v, fb v = true ↔ aBt x2 v) (h1 : qLn G = 1) (hz : qSz G = tn T) (hf : aTf T G 0 0) (hW : qW hs G) (hh : qHt G ≤ 8) (hq : qSq G = 0) : (¬ qS (qFl fb 9 0 G) → ∃ I', f_X3_flattened F n K I R 15 (some p) x2 = some (none, n, K, I', R) ∧ ∀ a, a ≠ 16 → a ≠ 17 → a ≠ 18 → I' a = I a) ∧ (qS (qFl fb 9 0 G) → ∃ I', f_X3_flattened F n K I R 15 (some p) x2 = some (some n, n + 4, zTnK K n, I', zTnR R n) ∧ zTc (zTnK K n) I' (zTnR R n) n (tmF (qFl fb 9 0 G)) ∧ tWF (tmF (qFl fb 9 0 G)) ∧ ∀ a, a ≠ 16 → a ≠ 17 → a ≠ 18 → (a < n ∨ n + 4 ≤ a) → I' a = I a) := by
  have h32 : tn T ≤ 32 := hT.1.2.1
  have hl : qLn (qFl fb 9 0 G) = 1 := by rw [q_fl_len (by decide)]; exact h1
  have hok : qOk fb G ↔ qS (qFl fb 9 0 G) := ⟨q_cOk_fS G 9 0, fun h => q_fS_cOk G 9 0 h (by omega) (by rw [q_sq_fl9 (by decide), hq]; omega)⟩
  have hcK : (K p).1 = 15 := by rw [hc.1]
  have ef : f_X3_flattened F n K I R 15 (some p) x2 = f_X3_flattened_28 F 15 ((F - qSz G) + qSz G) n K (zrw I 16 0 32 (fun _ => (0 : Int32))) R (some p) x2 (nI (0 + qSz G) + (-1)) := by
    unfold f_X3_flattened
    rw [show (0 : Int32) = nI 0 from rfl, flat2 hS hcK 32 0 F I (by omega) (by omega) (by omega), hc.2.2.2.2.2.2.2.1, Nat.sub_add_cancel (by omega), Nat.zero_add, hz]
    rfl
  obtain ⟨Iz, hIz⟩ : ∃ x : zI, x = zrw I 16 0 32 (fun _ => (0 : Int32)) := ⟨_, rfl⟩
  rw [← hIz] at ef
  have uz : ∀ a, a ≠ 16 → Iz a = I a := fun a ha => by rw [hIz, zrw_ne _ _ _ _ ha]
  have hcz : zTc K Iz R p T := zTc_row hc hp (fun a ha => uz a (by omega)) (fun a _ => rfl)
  obtain ⟨I1, v1, v2, v3⟩ := flat28 (F := F) (n := n) (by omega) hS hp hT hfb G 0 0 (F - qSz G) Iz hf (by omega) hcz (fun x _ hx => by rw [hIz, zrw_in _ _ _ (Nat.zero_le _) (by omega)])
  have u1 : ∀ a, a ≠ 16 → a ≠ 17 → a ≠ 18 → I1 a = I a := fun a a1 a2 a3 => by
    rw [← uz a a1]
    exact funext fun x => v1 a x (Or.inl ⟨a1, a2, a3⟩)
  constructor
  · intro hno
    exact ⟨I1, ef.trans (v3 (fun h => hno (hok.mp h))), u1⟩
  · intro hyes
    have hO := hok.mpr hyes
    obtain ⟨w1, w2, w3⟩ := v2 hO
    have hwf : tWF (tmF (qFl fb 9 0 G)) := by
      have z1 := q_sz_fl (fb := fb) G 9 0
      have z2 := q_ht_fl (fb := fb) G 9 0
      exact q_tWF_f hl (by omega) (q_fW_fl G 9 0 hW) hyes (by omega) (by rw [q_sq_fl9 (by decide)]; exact hq)
    obtain ⟨tK1, tK2, tK3, tK4, tK5, tK6⟩ := zTn_K (K := K) (n := n)
    obtain ⟨tI1, tI2, tI3, tI4⟩ := zTn_I (I := I1) (n := n)
    obtain ⟨tR1, tR2, tR3, tR4⟩ := zTn_R (R := R) (n := n)
    obtain ⟨k0, k1, k2, k3, r0, r1, r2⟩ := hS
    have hS' : aSh (zTnK K n) (zTnR R n) := ⟨by rw [tK5 _ (by omega)]; exact k0, by rw [tK5 _ (by omega)]; exact k1, by rw [tK5 _ (by omega)]; exact k2, by rw [tK5 _ (by omega)]; exact k3, by rw [tR4 _ (by omega)]; exact r0, by rw [tR4 _ (by omega)]; exact r1, by rw [tR4 _ (by omega)]; exact r2⟩
    have hcn : zTc (zTnK K n) (zTnI I1 n) (zTnR R n) p T := zTc_keep hc (fun a a1 a2 => ⟨tK5 a (by omega), by rw [tI3 a (by omega), u1 a (by omega) (by omega) (by omega)], tR4 a (by omega)⟩)
    have e16 : zTnI I1 n 16 = I1 16 := tI3 16 (by omega)
    have e17 : zTnI I1 n 17 = I1 17 := tI3 17 (by omega)
    have e18 : zTnI I1 n 18 = I1 18 := tI3 18 (by omega)
    obtain ⟨I2, b1, b2, b3, b4, b5⟩ := flat61 (F := F) (m := n + 4) (fb := fb) hS' hp hpn hT tK1 tK2 tR1 G 0 0 9 0 0 (F - qSz G) (zTnI I1 n) hf (by omega) (aDn_congr G 0 (fun x _ _ => by rw [e16, e17, e18]; exact ⟨rfl, rfl, rfl⟩) w2) (aFlg_0 (by decide) G 0 (aFz_congr G 0 (fun x _ _ => by rw [e16]) w3)) hO hcn (by rw [tI1]; rfl) (Nat.le_refl _)
    have hTk : zTk (zTnK K n) I2 (zTnR R n) n (tmF (qFl fb 9 0 G)) := ⟨tK1, tK2, tK3, tK4, tR1, tR2, tR3, by rw [b2, Nat.zero_add]; rfl, fun i hi => by
      have := b4 i hi
      rw [Nat.zero_add] at this
      rw [this, tcode_co]⟩
    obtain ⟨I3, c1, c2, c3⟩ := X5_settle (F := F) (by omega) hwf.1 (tNd_c hwf.2.1) hTk (by rw [b5 _ (by omega) (by omega)]; exact tI2)
    refine ⟨I3, ?_, c2, hwf, fun a a1 a2 a3 a4 => ?_⟩
    · rw [ef, w1]
      obtain ⟨t, ht⟩ : ∃ t, F - qSz G = t + 1 := ⟨F - qSz G - 1, by omega⟩
      rw [ht]
      show g_X3_flattened_28 F 15 _ n K I1 R (some p) x2 (nI 0 + (-1)) = _
      unfold g_X3_flattened_28
      rw [if_pos (by decide), zbd4_s, X5_new, zbd4_s]
      rw [Nat.sub_add_cancel (by omega)] at b1
      rw [show (0 : Int32) = nI 0 from rfl, b1, ht, Nat.zero_add]
      have hc2 : zTc (zTnK K n) I2 (zTnR R n) p T := zTc_keep hcn (fun a a1 a2 => ⟨rfl, b5 a (by omega) (by omega), rfl⟩)
      show g_X3_flattened_61 F 15 _ (n + 4) (zTnK K n) I2 (zTnR R n) (some p) (some n) (nI (qSz G)) = _
      unfold g_X3_flattened_61 f_X3_flattened_111
      rw [zdr_s (t := 15) (by rw [hc2.1]), zbd_s, hc2.2.2.2.2.2.2.2.1, if_pos (nI_le (by omega) (by omega)), zdr_s (t := 15) (by rw [tK1]), zbd_s, c1, zbd_s]
    · rw [c3 a (by omega) (by omega), b5 a (by omega) (by omega)]
      rcases a4 with h | h
      · rw [tI3 a h, u1 a a1 a2 a3]
      · rw [tI4 a h, u1 a a1 a2 a3]
end ZPS
