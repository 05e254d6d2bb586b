/-! DRAWS: a row of a term, by chance -/
theorem and7 (y : Int32) : ∃ k, k < 8 ∧ y &&& (7 : Int32) = nI k := by
  refine ⟨y.toBitVec.toNat % 8, Nat.mod_lt _ (by decide), ?_⟩
  apply Int32.toBitVec_inj.mp
  apply BitVec.eq_of_toNat_eq
  rw [Int32.toBitVec_and, BitVec.toNat_and]
  show y.toBitVec.toNat &&& 7 = (BitVec.ofNat 32 (y.toBitVec.toNat % 8)).toNat
  have h : y.toBitVec.toNat &&& 7 = y.toBitVec.toNat % 8 := Nat.and_two_pow_sub_one_eq_mod _ 3
  have h2 : y.toBitVec.toNat % 8 < 8 := Nat.mod_lt _ (by decide)
  rw [BitVec.toNat_ofNat, h, Nat.mod_eq_of_lt (a := y.toBitVec.toNat % 8) (by omega)]
theorem mod4 : ∀ k, k < 8 → nI k - nI k / (4 : Int32) * (4 : Int32) = nI (k % 4) := by decide +kernel
theorem mod3 : ∀ k, k < 8 → nI k - nI k / (3 : Int32) * (3 : Int32) = nI (k % 3) := by decide +kernel
/-- a row of nodes -/
def dRw (P : Nat → Int32) (L : List (Nat × Nat)) : Prop := ∀ (i : Nat) (v : Nat × Nat), L[i]? = some v → P (2 * i) = nI v.1 ∧ P (2 * i + 1) = nI v.2
/-- the stack of what is left -/
def dSt (P : Nat → Int32) : List Nat → Prop
  | [] => True
  | l :: s => P s.length = nI l ∧ dSt P s
def dDp : List Nat → Int32
  | [] => -1
  | _ :: s => nI s.length
def dTr : List Nat → List Nat
  | [] => []
  | 0 :: s => dTr s
  | (l + 1) :: s => (l + 1) :: s
def dSm : List Nat → Nat
  | [] => 0
  | l :: s => l + dSm s
def dN : aFo → Prop
  | .leaf _ => True
  | .branch w k r => (w < 3 ∧ qLn k ≤ 3) ∧ dN k ∧ dN r
/-- what is still to come -/
def dFi : List Nat → List (Nat × Nat) → Prop
  | [], L => L = []
  | l :: s, L => ∃ (G : aFo) (M : List (Nat × Nat)), qLn G = l ∧ L = qLi G ++ M ∧ qHt G ≤ 6 - s.length ∧ dN G ∧ dFi s M
theorem dSt_keep {P P' : Nat → Int32} : ∀ s : List Nat, (∀ j, j < s.length → P' j = P j) → dSt P s → dSt P' s := by
  intro s
  induction s with
  | nil => intro _ _; exact True.intro
  | cons l s ih =>
    intro h hs
    exact ⟨by rw [h _ (by rw [List.length_cons]; omega)]; exact hs.1, ih (fun j hj => h j (by rw [List.length_cons]; omega)) hs.2⟩
theorem dSt_tr {P : Nat → Int32} : ∀ s : List Nat, dSt P s → dSt P (dTr s)
  | [], h => h
  | 0 :: s, h => dSt_tr s h.2
  | (_ + 1) :: _, h => h
theorem dSm_tr : ∀ s : List Nat, dSm (dTr s) = dSm s
  | [] => rfl
  | 0 :: s => by rw [show dTr (0 :: s) = dTr s from rfl, dSm_tr s, dSm, Nat.zero_add]
  | (_ + 1) :: _ => rfl
theorem dTr_len : ∀ s : List Nat, (dTr s).length ≤ s.length
  | [] => Nat.le_refl _
  | 0 :: s => by have := dTr_len s; rw [show dTr (0 :: s) = dTr s from rfl, List.length_cons]; omega
  | (_ + 1) :: _ => Nat.le_refl _
theorem dTr_hd : ∀ (s : List Nat) {l : Nat} {s' : List Nat}, dTr s = l :: s' → l ≠ 0
  | [], _, _, h => by cases h
  | 0 :: s, _, _, h => dTr_hd s h
  | (_ + 1) :: _, _, _, h => by cases h; omega
theorem dFi_tr : ∀ (s : List Nat) (M : List (Nat × Nat)), dFi (dTr s) M → dFi s M
  | [], _, h => h
  | 0 :: s, M, h => ⟨.leaf (), M, rfl, rfl, Nat.zero_le _, True.intro, dFi_tr s M h⟩
  | (_ + 1) :: _, _, h => h
theorem dRw_add {P P' : Nat → Int32} {L : List (Nat × Nat)} {w m : Nat} (h : dRw P L) (h1 : P' (2 * L.length) = nI w) (h2 : P' (2 * L.length + 1) = nI m) (h3 : ∀ j, j < 2 * L.length → P' j = P j) : dRw P' (L ++ [(w, m)]) := by
  intro i v hv
  by_cases c : i < L.length
  · rw [List.getElem?_append_left c] at hv
    rw [h3 _ (by omega), h3 _ (by omega)]
    exact h i v hv
  · rw [List.getElem?_append_right (by omega)] at hv
    have c2 : i - L.length = 0 := by
      cases e : i - L.length with
      | zero => rfl
      | succ y => rw [e] at hv; cases hv
    rw [c2] at hv
    cases hv
    rw [show i = L.length by omega]
    exact ⟨h1, h2⟩
section ZPR
variable {F n a al : Nat} {K : zK} {I : zI} {R : zR} {x1 x2 x3 x6 x7 : Int32} {x0 : Option Nat}
theorem draws_pop (hK : K al = (1, 8)) (k : Nat → zK → zI → zR → Option Nat → Int32 → Int32 → Int32 → Option Nat → Int32 → Int32 → Int32 → Option (Nat × zK × zI × zR)) : ∀ (st : List Nat) (f : Nat), st.length ≤ 8 → st.length < f → dSm st ≤ 14 → dSt (I al) st → f_L_draws_151 F k f n K I R x0 x1 x2 x3 (some al) (dDp st) x6 x7 = k n K I R x0 x1 x2 x3 (some al) (dDp (dTr st)) x6 x7 := by
  intro st
  induction st with
  | nil =>
    intro f _ hf _ _
    obtain ⟨f, rfl⟩ : ∃ y, f = y + 1 := ⟨f - 1, by rw [List.length_nil] at hf; omega⟩
    show g_L_draws_151 F k _ n K I R x0 x1 x2 x3 (some al) (-1) x6 x7 = _
    unfold g_L_draws_151 f_L_draws_170
    rw [if_pos (by decide)]
    rfl
  | cons l s ih =>
    intro f h8 hf hs h
    rw [List.length_cons] at h8 hf
    rw [dSm] at hs
    obtain ⟨f, rfl⟩ : ∃ y, f = y + 1 := ⟨f - 1, by omega⟩
    show g_L_draws_151 F k (f_L_draws_151 F k f) n K I R x0 x1 x2 x3 (some al) (nI s.length) x6 x7 = _
    unfold g_L_draws_151 f_L_draws_170
    rw [if_neg (nI_pos (by omega)), zdr_s (by rw [hK]), zbd_s, zrd_s (by rw [hK]; show _ < 8; omega) (by rw [hK]; decide), zbd_s, h.1]
    cases l with
    | zero =>
      rw [if_pos (show nI 0 = (0 : Int32) from rfl), show nI s.length + (-1 : Int32) = dDp s from by
        cases s with
        | nil => rfl
        | cons x s => rw [List.length_cons, nI_m1]; rfl]
      exact ih f (by omega) (by omega) (by omega) h.2
    | succ l =>
      rw [if_neg (fun e => by have := (nI_z (by omega)).mp e; omega)]
      rfl
theorem dAr (c m : Nat) : nI (c + 1) + (nI m - (1 : Int32)) = nI (m + c) := by
  rw [← nI_1, Int32.add_assoc, Int32.add_comm 1 (nI m - 1), Int32.sub_add_cancel, nI_add, Nat.add_comm]
theorem draws_83 (hF : 5000 ≤ F) (hKa : K a = (1, 63)) (hKl : K al = (1, 8)) (hne : a ≠ al) {L : List (Nat × Nat)} {l m : Nat} {s : List Nat} (hL : L.length < 14) (hS : l + dSm s + m ≤ 14) (hR : dRw (I a) L) (hT : dSt (I al) ((l + 1) :: s)) (hs : s.length ≤ 5) (k : Nat → zK → zI → zR → Option Nat → Int32 → Int32 → Int32 → Option Nat → Int32 → Int32 → Int32 → Option (Nat × zK × zI × zR)) : ∃ (I1 : zI) (w : Nat), w < 3 ∧ f_L_draws_83 F k n K I R (some a) x1 x2 x3 (some al) (nI s.length) (nI L.length) (nI (l + dSm s + 1)) (nI m) = k n K I1 R (some a) x1 x2 x3 (some al) (dDp (dTr (if m = 0 then l :: s else m :: l :: s))) (nI (L.length + 1)) (nI (m + (l + dSm s))) ∧ dRw (I1 a) (L ++ [(w, m)]) ∧ dSt (I1 al) (dTr (if m = 0 then l :: s else m :: l :: s)) ∧ ∀ b, b ≠ a → b ≠ al → I1 b = I b := by
  obtain ⟨q, hq, e⟩ := and7 (x2 >>> ((((3 : Int32) * nI L.length) - (((3 : Int32) * nI L.length) / (28 : Int32)) * (28 : Int32)) &&& 31))
  have e2 : (2 : Int32) * nI L.length = nI (2 * L.length) := nI_mul 2 _
  have e5 : nI (l + 1) - (1 : Int32) = nI l := nI_sub (b := 1) (by omega)
  have hT1 : I al s.length = nI (l + 1) := hT.1
  unfold f_L_draws_83
  rw [e, mod3 q hq, zdr_s (by rw [hKa]), zbd_s, e2, zwr_s (by rw [hKa]; show _ < 63; omega) (by rw [hKa]; decide), zbd_s, nI_1, zwr_s (by rw [hKa]; show _ < 63; omega) (by rw [hKa]; decide), zbd_s, zbd_s, zdr_s (by rw [hKl]), zbd_s, zrd_s (by rw [hKl]; show _ < 8; omega) (by rw [hKl]; decide), zbd_s, zup_nb _ _ _ (Ne.symm hne), zup_nb _ _ _ (Ne.symm hne), hT1, e5, zwr_s (by rw [hKl]; show _ < 8; omega) (by rw [hKl]; decide), zbd_s, dAr, nI_1]
  have rw1 : dRw (zup (zup I a (2 * L.length) (nI (q % 3))) a (2 * L.length + 1) (nI m) a) (L ++ [(q % 3, m)]) := by
    refine dRw_add hR ?_ (zup_self _ _ _ _) (fun j hj => ?_)
    · rw [zup_self_ne _ _ _ (by omega), zup_self]
    · rw [zup_self_ne _ _ _ (by omega), zup_self_ne _ _ _ (by omega)]
  by_cases c : m = 0
  · subst c
    rw [if_pos (by decide : nI 0 ≤ (0 : Int32)), if_pos rfl]
    have st1 : dSt (zup (zup (zup I a (2 * L.length) (nI (q % 3))) a (2 * L.length + 1) (nI 0)) al s.length (nI l) al) (l :: s) := by
      refine ⟨zup_self _ _ _ _, dSt_keep s (fun j hj => ?_) hT.2⟩
      rw [zup_self_ne _ _ _ (by omega), zup_nb _ _ _ (Ne.symm hne), zup_nb _ _ _ (Ne.symm hne)]
    refine ⟨_, q % 3, Nat.mod_lt _ (by decide), draws_pop hKl k (l :: s) F (by rw [List.length_cons]; omega) (by rw [List.length_cons]; omega) (by rw [dSm]; omega) st1, ?_, dSt_tr _ st1, fun b h1 h2 => ?_⟩
    · rw [zup_ne _ _ _ hne]; exact rw1
    · rw [zup_ne _ _ _ h2, zup_ne _ _ _ h1, zup_ne _ _ _ h1]
  · rw [if_neg (fun h => c ((nI_z (by omega)).mp (Int32.le_antisymm h (nI_pos' (by omega))))), if_neg c, nI_1, zwr_s (by rw [hKl]; show _ < 8; omega) (by rw [hKl]; decide), zbd_s]
    have st1 : dSt (zup (zup (zup (zup I a (2 * L.length) (nI (q % 3))) a (2 * L.length + 1) (nI m)) al s.length (nI l)) al (s.length + 1) (nI m) al) (m :: l :: s) := by
      refine ⟨zup_self _ _ _ _, ?_, dSt_keep s (fun j hj => ?_) hT.2⟩
      · rw [zup_self_ne _ _ _ (by omega), zup_self]
      · rw [zup_self_ne _ _ _ (by omega), zup_self_ne _ _ _ (by omega), zup_nb _ _ _ (Ne.symm hne), zup_nb _ _ _ (Ne.symm hne)]
    refine ⟨_, q % 3, Nat.mod_lt _ (by decide), draws_pop hKl k (m :: l :: s) F (by rw [List.length_cons, List.length_cons]; omega) (by rw [List.length_cons, List.length_cons]; omega) (by rw [dSm, dSm]; omega) st1, ?_, dSt_tr _ st1, fun b h1 h2 => ?_⟩
    · rw [zup_ne _ _ _ hne, zup_ne _ _ _ hne]; exact rw1
    · rw [zup_ne _ _ _ h2, zup_ne _ _ _ h2, zup_ne _ _ _ h1, zup_ne _ _ _ h1]
theorem dFi_up {l m w : Nat} {s : List Nat} {M : List (Nat × Nat)} (hw : w < 3) (hm : m ≤ 3) (hs : s.length ≤ 5) (hs2 : m = 0 ∨ s.length ≤ 4) (h : dFi (if m = 0 then l :: s else m :: l :: s) M) : dFi ((l + 1) :: s) ((w, m) :: M) := by
  by_cases c : m = 0
  · subst c
    rw [if_pos rfl] at h
    obtain ⟨G, M2, h1, h2, h3, h4, h5⟩ := h
    refine ⟨.branch w (.leaf ()) G, M2, by rw [qLn, h1]; omega, by rw [h2]; rfl, ?_, ⟨⟨hw, Nat.zero_le _⟩, True.intro, h4⟩, h5⟩
    rw [qHt, qHt]; omega
  · rw [if_neg c] at h
    obtain ⟨G1, M1, a1, a2, a3, a4, G, M2, h1, h2, h3, h4, h5⟩ := h
    rw [List.length_cons] at a3
    refine ⟨.branch w G1 G, M2, by rw [qLn, h1]; omega, by rw [a2, h2, qLi, a1, List.cons_append, List.append_assoc], ?_, ⟨⟨hw, by omega⟩, a4, h4⟩, h5⟩
    rw [qHt]; omega
theorem draws_pick (hKa : K a = (1, 63)) {L : List (Nat × Nat)} {l : Nat} {s : List Nat} (hL : L.length + (l + dSm s + 1) ≤ 14) (hs : s.length ≤ 5) (k : Nat → zK → zI → zR → Option Nat → Int32 → Int32 → Int32 → Option Nat → Int32 → Int32 → Int32 → Option (Nat × zK × zI × zR)) : ∃ m, m ≤ 3 ∧ (m = 0 ∨ (s.length ≤ 4 ∧ L.length + (l + dSm s + 1) + m ≤ 14)) ∧ g_L_draws_20 F k n K I R x0 x1 x2 14 (some al) (nI s.length) (nI L.length) (nI (l + dSm s + 1)) = f_L_draws_83 F k n K I R x0 x1 x2 14 (some al) (nI s.length) (nI L.length) (nI (l + dSm s + 1)) (nI m) := by
  have key : ∀ m1, m1 ≤ 3 → ∃ m, m ≤ 3 ∧ (m = 0 ∨ (s.length ≤ 4 ∧ L.length + (l + dSm s + 1) + m ≤ 14)) ∧ f_L_draws_57 F k n K I R x0 x1 x2 14 (some al) (nI s.length) (nI L.length) (nI (l + dSm s + 1)) (nI m1) = f_L_draws_83 F k n K I R x0 x1 x2 14 (some al) (nI s.length) (nI L.length) (nI (l + dSm s + 1)) (nI m) := by
    intro m1 h1
    unfold f_L_draws_57 f_L_draws_77
    by_cases c : 4 < s.length
    · rw [if_pos (show (4 : Int32) < nI s.length from nI_lt (a := 4) c (by omega))]
      exact ⟨0, by omega, Or.inl rfl, rfl⟩
    · rw [if_neg (show ¬ (4 : Int32) < nI s.length from nI_nlt (b := 4) (a := 4) (by omega) (by omega) |> fun _ => nI_nlt (a := 4) (by omega) (by omega)), nI_add, nI_add]
      by_cases c2 : L.length + (l + dSm s + 1) + m1 ≤ 14
      · rw [if_pos (show nI (L.length + (l + dSm s + 1) + m1) ≤ (14 : Int32) from nI_le (b := 14) c2 (by omega))]
        exact ⟨m1, h1, Or.inr ⟨by omega, c2⟩, rfl⟩
      · rw [if_neg (show ¬ nI (L.length + (l + dSm s + 1) + m1) ≤ (14 : Int32) from nI_ge (a := 14) (by omega) (by omega))]
        exact ⟨0, by omega, Or.inl rfl, rfl⟩
  obtain ⟨q, hq, e⟩ := and7 (x1 >>> ((((2 : Int32) * nI L.length) - (((2 : Int32) * nI L.length) / (25 : Int32)) * (25 : Int32)) &&& 31))
  unfold g_L_draws_20 f_L_draws_55
  rw [if_neg (nI_pos (by omega)), e, mod4 q hq, zbd_s]
  have hq4 : q % 4 < 4 := Nat.mod_lt _ (by decide)
  by_cases c : nI L.length = 0
  · rw [if_pos c]
    by_cases c2 : nI (q % 4) = 0
    · rw [if_pos c2]
      exact key 2 (by omega)
    · rw [if_neg c2]
      exact key (q % 4) (by omega)
  · rw [if_neg c]
    exact key (q % 4) (by omega)
theorem draws_loop (hF : 5000 ≤ F) (hKa : K a = (1, 63)) (hKl : K al = (1, 8)) (hne : a ≠ al) : ∀ (d t : Nat) (L : List (Nat × Nat)) (st : List Nat) (I : zI), d + L.length = 14 → d < t → dSt (I al) st → L.length + dSm st ≤ 14 → st.length ≤ 6 → (∀ l s, st = l :: s → l ≠ 0) → dRw (I a) L → ∃ (I' : zI) (M : List (Nat × Nat)), f_L_draws_20 F t n K I R (some a) x1 x2 14 (some al) (dDp st) (nI L.length) (nI (dSm st)) = some (n, K, I', R) ∧ dFi st M ∧ dRw (I' a) (L ++ M) ∧ I' a 62 = nI (L.length + M.length) ∧ L.length + M.length ≤ 14 ∧ ∀ b, b ≠ a → b ≠ al → I' b = I b := by
  intro d
  induction d with
  | zero =>
    intro t L st I hd ht hS hsm h6 hz hR
    cases st with
    | cons l s => exact absurd hsm (by have := hz l s rfl; rw [dSm]; omega)
    | nil =>
      obtain ⟨t, rfl⟩ : ∃ y, t = y + 1 := ⟨t - 1, by omega⟩
      refine ⟨zup I a 62 (nI L.length), [], ?_, rfl, ?_, zup_self _ _ _ _, by rw [List.length_nil]; omega, fun b h1 _ => zup_ne _ _ _ h1⟩
      · show g_L_draws_20 F _ n K I R (some a) x1 x2 14 (some al) (-1) (nI L.length) _ = _
        unfold g_L_draws_20
        rw [if_pos (by decide), zdr_s (by rw [hKa]), zbd_s, show (62 : Int32) = nI 62 from rfl, zwr_s (by rw [hKa]; decide) (by rw [hKa]; decide), zbd_s]
      · rw [List.append_nil]
        intro i v hv
        have hi : i < L.length := (List.getElem?_eq_some_iff.mp hv).1
        rw [zup_self_ne _ _ _ (by omega), zup_self_ne _ _ _ (by omega)]
        exact hR i v hv
  | succ d ih =>
    intro t L st I hd ht hS hsm h6 hz hR
    obtain ⟨t, rfl⟩ : ∃ y, t = y + 1 := ⟨t - 1, by omega⟩
    cases st with
    | nil =>
      refine ⟨zup I a 62 (nI L.length), [], ?_, rfl, ?_, zup_self _ _ _ _, by rw [List.length_nil]; omega, fun b h1 _ => zup_ne _ _ _ h1⟩
      · show g_L_draws_20 F _ n K I R (some a) x1 x2 14 (some al) (-1) (nI L.length) _ = _
        unfold g_L_draws_20
        rw [if_pos (by decide), zdr_s (by rw [hKa]), zbd_s, show (62 : Int32) = nI 62 from rfl, zwr_s (by rw [hKa]; decide) (by rw [hKa]; decide), zbd_s]
      · rw [List.append_nil]
        intro i v hv
        have hi : i < L.length := (List.getElem?_eq_some_iff.mp hv).1
        rw [zup_self_ne _ _ _ (by omega), zup_self_ne _ _ _ (by omega)]
        exact hR i v hv
    | cons l0 s =>
      have h0 := hz l0 s rfl
      obtain ⟨l, rfl⟩ : ∃ y, l0 = y + 1 := ⟨l0 - 1, by omega⟩
      rw [dSm] at hsm
      rw [List.length_cons] at h6
      have hsm : L.length + (l + dSm s + 1) ≤ 14 := by omega
      obtain ⟨m, hm, hm2, e⟩ := draws_pick (F := F) (n := n) (al := al) (I := I) (R := R) (x1 := x1) (x2 := x2) (x0 := some a) hKa hsm (by omega) (f_L_draws_20 F t)
      obtain ⟨I1, w, hw, e1, r1, s1, f1⟩ := draws_83 (n := n) (R := R) (x1 := x1) (x2 := x2) (x3 := 14) (m := m) hF hKa hKl hne (by omega) (by omega) hR hS (by omega) (f_L_draws_20 F t)
      have hln : (L ++ [(w, m)]).length = L.length + 1 := by rw [List.length_append]; rfl
      have hsm2 : dSm (dTr (if m = 0 then l :: s else m :: l :: s)) = m + (l + dSm s) := by
        rw [dSm_tr]
        by_cases c : m = 0
        · rw [if_pos c, dSm]; omega
        · rw [if_neg c, dSm, dSm]
      have hle2 : (dTr (if m = 0 then l :: s else m :: l :: s)).length ≤ 6 := by
        have := dTr_len (if m = 0 then l :: s else m :: l :: s)
        by_cases c : m = 0
        · rw [if_pos c, List.length_cons] at this; rw [if_pos c]; omega
        · rw [if_neg c, List.length_cons, List.length_cons] at this; rw [if_neg c]; omega
      obtain ⟨I', M, e2, m1, m2, m3, m4, m5⟩ := ih t (L ++ [(w, m)]) _ I1 (by omega) (by omega) s1 (by rw [hsm2, hln]; omega) hle2 (fun l' s' hh => dTr_hd _ hh) r1
      rw [hln] at e2 m3 m4
      rw [hsm2] at e2
      refine ⟨I', (w, m) :: M, ?_, dFi_up hw hm (by omega) (by omega) (dFi_tr _ _ m1), ?_, ?_, ?_, fun b h1 h2 => by rw [m5 b h1 h2, f1 b h1 h2]⟩
      · show g_L_draws_20 F (f_L_draws_20 F t) n K I R (some a) x1 x2 14 (some al) (nI s.length) (nI L.length) (nI (l + 1 + dSm s)) = _
        rw [show l + 1 + dSm s = l + dSm s + 1 by omega, e, e1, e2]
      · rw [show L ++ (w, m) :: M = L ++ [(w, m)] ++ M from by rw [List.append_assoc]; rfl]
        exact m2
      · rw [m3, List.length_cons, show L.length + 1 + M.length = L.length + (M.length + 1) by omega]
      · rw [List.length_cons]; omega
theorem l_draws (hF : 5000 ≤ F) (hKa : K a = (1, 63)) (ha : a < n) : ∃ (G : aFo) (I' : zI), f_L_draws F n K I R (some a) x1 x2 14 = some (n + 1, zset K n (1, 8), I', R) ∧ qLn G = 1 ∧ qHt G ≤ 6 ∧ qSz G ≤ 14 ∧ dN G ∧ dRw (I' a) (qLi G) ∧ I' a 62 = nI (qSz G) ∧ ∀ b, b ≠ a → b ≠ n → I' b = I b := by
  have k1 : zset K n (1, 8) a = (1, 63) := by unfold zset; rw [if_neg (by omega), hKa]
  have k2 : zset K n (1, 8) n = (1, 8) := by unfold zset; rw [if_pos rfl]
  obtain ⟨I', M, e, m1, m2, m3, m4, m5⟩ := draws_loop (n := n + 1) (al := n) (R := R) (x1 := x1) (x2 := x2) hF k1 k2 (by omega) 14 F [] [1] (zup (zclr I n 0) n 0 1) rfl (by omega) ⟨zup_self _ _ _ _, True.intro⟩ (by decide) (by decide) (fun l s h => by cases h; decide) (fun i v h => by cases h)
  obtain ⟨G, M2, h1, h2, h3, h4, h5⟩ := m1
  have h5 : M2 = [] := h5
  subst h5
  rw [List.append_nil] at h2
  subst h2
  rw [List.nil_append] at m2
  rw [List.length_nil, qLi_len, Nat.zero_add] at m3 m4
  refine ⟨G, I', ?_, h1, h3, m4, h4, m2, m3, fun b b1 b2 => ?_⟩
  · unfold f_L_draws
    rw [zbd3_s, if_pos (by rw [k2]), show (0 : Int32) = nI 0 from rfl, zwr_s (by rw [k2]; decide) (by rw [k2]; decide), zbd_s]
    exact e
  · rw [m5 b b1 b2, zup_ne _ _ _ b2]
    unfold zclr
    funext j
    rw [if_neg b2]
end ZPR
theorem dN_good : ∀ G : aFo, dN G → pHF G ∧ pN3 G ∧ qS G ∧ qW (fun _ => 0) G ∧ qSq G = 0 := by
  intro G
  induction G with
  | leaf _ => intro _; exact ⟨True.intro, True.intro, True.intro, True.intro, rfl⟩
  | branch w k r ihk ihr =>
    intro h
    obtain ⟨⟨h1, h2⟩, h3, h4⟩ := h
    obtain ⟨a1, a2, a3, a4, a5⟩ := ihk h3
    obtain ⟨b1, b2, b3, b4, b5⟩ := ihr h4
    have e0 : w / 16 = 0 := by omega
    refine ⟨⟨by omega, a1, b1⟩, ⟨by omega, a2, b2⟩, ⟨⟨by omega, by omega⟩, a3, b3⟩, ⟨⟨by omega, fun _ => by omega, fun h => absurd e0 h, fun h => by omega, fun h => by omega, fun h => absurd e0 h⟩, a4, b4⟩, ?_⟩
    rw [qSq, b5, if_neg (by omega)]
theorem dN_gGd {G : aFo} (h1 : qLn G = 1) (h2 : qHt G ≤ 6) (h3 : qSz G ≤ 14) (h4 : dN G) : gGd G ∧ pHF G := by
  obtain ⟨a1, a2, a3, a4, a5⟩ := dN_good G h4
  exact ⟨⟨h1, h3, ⟨_, a4⟩, a3, by omega, a2⟩, a1⟩
