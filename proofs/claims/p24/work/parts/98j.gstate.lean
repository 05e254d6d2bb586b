/-! WHAT THE REGISTERS HOLD, as forests; states that are remembered; and the calls that make a register -/
abbrev gSt : Type := Nat → Option aFo
def gUp (S : gSt) (o : Nat) (v : Option aFo) : gSt := fun r => if r = o then v else S r
/-- a block of the page: registers S, settings c -/
def gBl (P : Nat → Int32) (o : Nat) (S : gSt) (c : Nat → Int32) : Prop := (∀ r, r < 8 → (S r = none ∧ P (o + 97 * r) = 0) ∨ ∃ G, S r = some G ∧ gGd G ∧ zTm P (o + 97 * r) (tmF G)) ∧ ∀ k, k < 4 → P (o + 776 + k) = c k
/-- the latest states remembered, as far as they are known -/
def gHi (J : zI) (H : List (gSt × (Nat → Int32))) : Prop := ∃ h, h ≤ 6 ∧ J 89 1 = nI h ∧ ∀ (x : Nat) (v : gSt × (Nat → Int32)), H[x]? = some v → x < h ∧ gBl (J 90) (780 * (h - x)) v.1 v.2
section GST
variable {F : Nat} {J J' : zI} {RM : zR} {S : gSt} {c : Nat → Int32} {H : List (gSt × (Nat → Int32))} {r q o : Nat} {G : aFo}
theorem gBl_keep {P P' : Nat → Int32} {o o' : Nat} (h : gBl P o S c) (hp : ∀ q, q < 780 → P' (o' + q) = P (o + q)) : gBl P' o' S c := by
  refine ⟨fun r hr => ?_, fun k hk => ?_⟩
  · rcases h.1 r hr with ⟨a1, a2⟩ | ⟨G, a1, a2, a3⟩
    · exact Or.inl ⟨a1, by rw [hp _ (by omega)]; exact a2⟩
    · refine Or.inr ⟨G, a1, a2, zTm_keep a3 (fun q hq => ?_) (gGd_wf a2).1.1.2.1⟩
      have := hp (97 * r + q) (by omega)
      rw [← Nat.add_assoc, ← Nat.add_assoc] at this
      exact this
  · have := hp (776 + k) (by omega)
    rw [← Nat.add_assoc, ← Nat.add_assoc] at this
    rw [this]
    exact h.2 k hk
theorem gBl_some (h : gBl (J 90) 0 S c) (hr : r < 8) (hS : S r = some G) : gGd G ∧ zTm (J 90) (97 * r) (tmF G) ∧ J 90 (97 * r) ≠ 0 := by
  rcases h.1 r hr with ⟨a1, -⟩ | ⟨G', a1, a2, a3⟩
  · rw [hS] at a1; cases a1
  · rw [hS] at a1
    cases a1
    rw [Nat.zero_add] at a3
    refine ⟨a2, a3, ?_⟩
    have n1 := (gGd_wf a2).1.1.1
    have n2 := (gGd_wf a2).1.1.2.1
    rw [a3.1]
    exact nI_ne0 (by omega) (by omega)
theorem gBl_none (h : gBl (J 90) 0 S c) (hr : r < 8) (hS : S r = none) : J 90 (97 * r) = 0 := by
  rcases h.1 r hr with ⟨-, a2⟩ | ⟨G', a1, -⟩
  · rw [Nat.zero_add] at a2; exact a2
  · rw [hS] at a1; cases a1
theorem gBl_c (h : gBl (J 90) 0 S c) {k : Nat} (hk : k < 4) : J 90 (776 + k) = c k := by
  have := h.2 k hk
  rw [Nat.zero_add] at this
  exact this
theorem gHi_keep (h : gHi J H) (h1 : J' 89 1 = J 89 1) (h2 : ∀ q, 780 ≤ q → q < 5460 → J' 90 q = J 90 q) : gHi J' H := by
  obtain ⟨g, g1, g2, g3⟩ := h
  refine ⟨g, g1, by rw [h1]; exact g2, fun x v hv => ?_⟩
  obtain ⟨a1, a2⟩ := g3 x v hv
  exact ⟨a1, gBl_keep a2 fun q hq => h2 _ (by omega) (by omega)⟩
theorem gHi_nil (h : gHi J H) : gHi J [] := by
  obtain ⟨g, g1, g2, -⟩ := h
  exact ⟨g, g1, g2, fun x v hv => by simp at hv⟩
theorem zrec_lo {h : Nat} {P : Nat → Int32} {q : Nat} (hq : q < 780 ∨ 5460 ≤ q) (hh : h ≤ 6) : zrec h P q = P q := by
  unfold zrec
  by_cases h6 : h < 6
  · rw [if_pos h6, if_neg (by omega)]
  · rw [if_neg h6, if_neg (by omega), if_neg (by omega)]
/-- records(): the state of now is the latest one -/
theorem g_rec (hF : 5000 ≤ F) (hRM : zRM RM) (hb : gBl (J 90) 0 S c) (hh : gHi J H) (hl : H.length ≤ 4) : ∃ J1, f_X7_records F zKm J RM 89 = some J1 ∧ (∀ q, q < 780 ∨ 5460 ≤ q → J1 90 q = J 90 q) ∧ gHi J1 ((S, c) :: H) ∧ (∀ b, b ≠ 89 → b ≠ 90 → J1 b = J b) ∧ ∀ k, k ≠ 1 → J1 89 k = J 89 k := by
  have r0 : RM 89 0 = some 90 := hRM 89 0 (by decide) (by decide) (by decide)
  obtain ⟨h, h6, h1, h2⟩ := hh
  refine ⟨_, records_eq F hF r0 h6 h1, fun q hq => by rw [zpg_91]; exact zrec_lo hq h6, ⟨if h < 6 then h + 1 else 6, by split <;> omega, by rw [zpg_ne _ _ (by decide), zup_self], fun x v hv => ?_⟩, fun b b1 b2 => by rw [zpg_ne _ _ b2, zup_ne _ _ _ b1], fun k hk => by rw [zpg_ne _ _ (by decide), zup_self_ne _ _ _ hk]⟩
  rw [zpg_91]
  have hx : x < ((S, c) :: H).length := by
    rcases Nat.lt_or_ge x ((S, c) :: H).length with z | z
    · exact z
    · rw [List.getElem?_eq_none z] at hv; cases hv
  rw [List.length_cons] at hx
  cases x with
  | zero =>
    rw [List.getElem?_cons_zero] at hv
    cases hv
    by_cases hlt : h < 6
    · rw [if_pos hlt]
      refine ⟨by omega, gBl_keep hb fun q hq => ?_⟩
      unfold zrec
      rw [if_pos hlt, if_pos (by omega), show 780 * (h + 1 - 0) + q - 780 * (h + 1) = 0 + q by omega]
    · rw [if_neg hlt]
      refine ⟨by omega, gBl_keep hb fun q hq => ?_⟩
      unfold zrec
      rw [if_neg hlt, if_neg (by omega), if_pos (by omega), show 780 * (6 - 0) + q - 4680 = 0 + q by omega]
  | succ x =>
    rw [List.getElem?_cons_succ] at hv
    obtain ⟨a1, a2⟩ := h2 x v hv
    by_cases hlt : h < 6
    · rw [if_pos hlt]
      refine ⟨by omega, gBl_keep a2 fun q hq => ?_⟩
      unfold zrec
      rw [if_pos hlt, if_neg (by omega), show 780 * (h + 1 - (x + 1)) + q = 780 * (h - x) + q by omega]
    · rw [if_neg hlt]
      refine ⟨by omega, gBl_keep a2 fun q hq => ?_⟩
      unfold zrec
      rw [if_neg hlt, if_pos (by omega), show 780 * (6 - (x + 1)) + q + 780 = 780 * (h - x) + q by omega]
/-- a register is made -/
theorem gBl_up {P P' : Nat → Int32} (h : gBl P 0 S c) (ho : o < 8) (hp : ∀ q, q < 780 → (q < 97 * o ∨ 97 * o + 97 ≤ q) → P' q = P q) (hG : gGd G) (hm : zTm P' (97 * o) (tmF G)) : gBl P' 0 (gUp S o (some G)) c := by
  refine ⟨fun r hr => ?_, fun k hk => ?_⟩
  · by_cases e : r = o
    · subst e
      exact Or.inr ⟨G, by unfold gUp; rw [if_pos rfl], hG, by rw [Nat.zero_add]; exact hm⟩
    · have e1 : gUp S o (some G) r = S r := by unfold gUp; rw [if_neg e]
      rw [e1]
      rcases h.1 r hr with ⟨a1, a2⟩ | ⟨G', a1, a2, a3⟩
      · exact Or.inl ⟨a1, by rw [hp _ (by omega) (by omega)]; exact a2⟩
      · exact Or.inr ⟨G', a1, a2, zTm_keep a3 (fun q hq => hp _ (by omega) (by omega)) (gGd_wf a2).1.1.2.1⟩
  · rw [hp _ (by omega) (by omega)]
    exact h.2 k hk
/-- records() and puts() -/
theorem g_keep (hF : 5000 ≤ F) (hRM : zRM RM) (hb : gBl (J 90) 0 S c) (hh : gHi J H) {fr : Nat} (hfr : 5460 ≤ fr) (hfr2 : fr + 97 ≤ 5751) (ho : o < 8) (hG : gGd G) (hm : zTm (J 90) fr (tmF G)) : ∃ J1, (zbd (f_X7_records F zKm J RM 89) fun I11 => zbd2 (f_X7_puts F zKm I11 RM 89 (nI fr) (nI o)) fun v13 I14 => some (v13, I14)) = some (nI (qSz G), J1) ∧ gBl (J1 90) 0 (gUp S o (some G)) c ∧ gHi J1 [] := by
  obtain ⟨J1, a1, a2, a3, a4, a5⟩ := g_rec hF hRM hb (gHi_nil hh) (Nat.zero_le _)
  have n2 := (gGd_wf hG).1.1.2.1
  have hm1 : zTm (J1 90) fr (tmF G) := zTm_keep hm (fun q _ => a2 _ (by omega)) n2
  refine ⟨zCp J1 fr (97 * o) 97, ?_, gBl_up hb ho (fun q hq hq2 => ?_) hG (zTm_keep hm1 (fun q hq => ?_) n2), ?_⟩
  · rw [a1, zbd_s, X7_puts hRM (by omega) hfr2 hfr ho, zbd2_s, hm1.1]; rfl
  · unfold zCp
    rw [if_neg (by omega), a2 q (by omega)]
  · unfold zCp
    rw [if_pos ⟨rfl, by omega, by omega⟩, show fr + (97 * o + q - 97 * o) = fr + q by omega]
  · refine gHi_keep (gHi_nil a3) ?_ (fun q h1 h2 => ?_)
    · unfold zCp; rw [if_neg (by omega)]
    · unfold zCp; rw [if_neg (by omega)]
theorem X7_join_eq (hRM : zRM RM) (ho : o < 8) (hr : r < 8) (hq : q < 8) : f_X7_join F zKm J RM 89 (nI r) (nI q) (nI o) = (zbd (f_X7_wrong F zKm J RM 89 (nI r) (nI q) 1) fun v3 => if v3 = (0 : Int32) then (zbd2 (f_X7_joins F zKm (zup J 89 16 0) RM 89 (nI (97 * r)) (nI (97 * q)) (nI 5460)) fun v7 I8 => if v7 = (0 : Int32) then some ((-3 : Int32), I8) else (zbd (f_X7_records F zKm I8 RM 89) fun I11 => zbd2 (f_X7_puts F zKm I11 RM 89 (nI 5460) (nI o)) fun v13 I14 => some (v13, I14))) else some (v3, J)) := by
  unfold f_X7_join
  rw [X7_reg ho, zbd_s]
  simp only [zbd_s, nl97, nI_mul]
  rfl
/-- what joins() leaves alone -/
theorem gBl_jo {to : Nat} (h : gBl (J 90) 0 S c) (hto : 5460 ≤ to) (hJ : zJoJ to (zup J 89 16 0) J') : gBl (J' 90) 0 S c := gBl_keep h fun q hq => by rw [hJ.2.2 _ (by omega), zup_nb _ _ _ (by decide)]
theorem gHi_jo {to : Nat} (h : gHi J H) (hto : 5460 ≤ to) (hJ : zJoJ to (zup J 89 16 0) J') : gHi J' H := gHi_keep h (by rw [hJ.2.1 1 (by decide) (by decide), zup_self_ne _ _ _ (by decide)]) (fun q h1 h2 => by rw [hJ.2.2 _ (by omega), zup_nb _ _ _ (by decide)])
theorem gRw_regs {to : Nat} (hr : r < 8) (hq : q < 8) (h1 : 5460 ≤ to) (h2 : to + 97 ≤ 5751) : gRw (97 * r) (97 * q) to := ⟨by omega, by omega, h1, h2, by omega, by omega⟩
/-- the ghost's join() -/
theorem g_join (hF : 5000 ≤ F) (hRM : zRM RM) (hb : gBl (J 90) 0 S c) (hh : gHi J H) {A B : aFo} (hr : r < 8) (hq : q < 8) (ho : o < 8) (hA : S r = some A) (hB : S q = some B) (hc1 : c 1 = 0) {hd : Bool} (hc0 : c 0 = 1 ↔ hd = true) :
    (jn hd A B 0 0 [] = none ∧ ∃ J1, f_X7_join F zKm J RM 89 (nI r) (nI q) (nI o) = some (-3, J1) ∧ gBl (J1 90) 0 S c ∧ gHi J1 []) ∨ ∃ P tb J1, jn hd A B 0 0 [] = some (P, tb) ∧ f_X7_join F zKm J RM 89 (nI r) (nI q) (nI o) = some (nI (qSz P), J1) ∧ gBl (J1 90) 0 (gUp S o (some P)) c ∧ gHi J1 [] := by
  have hR0 : RM 89 0 = some 90 := hRM 89 0 (by decide) (by decide) (by decide)
  obtain ⟨a1, a2, a3⟩ := gBl_some hb hr hA
  obtain ⟨b1, b2, b3⟩ := gBl_some hb hq hB
  have e90 : zup J 89 16 (0 : Int32) 90 = J 90 := zup_ne _ _ _ (by decide)
  obtain ⟨v, J1, j1, j2, j3⟩ := gJoins (F := F) (J := zup J 89 16 0) (hd := hd) hF hRM (gRw_regs hr hq (Nat.le_refl _) (by decide)) (gGd_wf a1).1 (gGd_wf b1).1 (gGd_wf a1).2 (gGd_wf b1).2 a1.1 b1.1 (by rw [e90]; exact a2) (by rw [e90]; exact b2) (zup_self _ _ _ _) (by rw [e90]; exact (gBl_c hb (k := 1) (by decide)).trans hc1) (by rw [e90, gBl_c hb (k := 0) (by decide)]; exact hc0)
  have hb1 := gBl_jo hb (Nat.le_refl _) j2
  have hh1 := gHi_jo hh (Nat.le_refl _) j2
  rw [X7_join_eq hRM ho hr hq, X7_wrong0 hR0 hr hq a3 b3, zbd_s, if_pos rfl, j1, zbd2_s]
  rcases j3 with ⟨k1, rfl⟩ | ⟨P, tb, k1, rfl, k3, -⟩
  · exact Or.inl ⟨k1, J1, by rw [if_pos rfl], hb1, gHi_nil hh1⟩
  · obtain ⟨J2, m1, m2, m3⟩ := g_keep hF hRM hb1 hh1 (Nat.le_refl _) (by decide) ho (gGd_jn a1 k1).1 k3
    exact Or.inr ⟨P, tb, J2, k1, by rw [if_neg (by decide)]; exact m1, m2, m3⟩
end GST
