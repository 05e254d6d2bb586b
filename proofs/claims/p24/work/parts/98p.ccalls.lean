/-! THE CLASS'S CALLS: the program beside the ghost, what the registers hold said as forests -/
def cS (K : zK) (I : zI) (R : zR) (n : Nat) (S : gSt) (c : Nat → Int32) (H : List (gSt × (Nat → Int32))) : Prop := ∃ (J : zI) (RM : zR), zSim 0 K I R n zKm J RM ∧ gBl (J 90) 0 S c ∧ gHi J H
section CC
variable {F n : Nat} {K : zK} {I : zI} {R : zR} {S : gSt} {c : Nat → Int32} {H : List (gSt × (Nat → Int32))} {r q o t : Nat} {P A B : aFo} {hd : Bool}
theorem cS_k (h : cS K I R n S c H) : (K 0).1 = 16 := by
  obtain ⟨J, RM, h1, -, -⟩ := h
  rw [(zSim_ctx h1).2.2.2.1 0 (by decide)]
  rfl
theorem cS_nil (h : cS K I R n S c H) : cS K I R n S c [] := by
  obtain ⟨J, RM, h1, h2, h3⟩ := h
  exact ⟨J, RM, h1, h2, gHi_nil h3⟩
theorem pSome {α : Type} {x : Option α} {a b : α} (h1 : x = some a) (h2 : x = some b) : a = b := Option.some.inj (h1.symm.trans h2)
theorem c_join (hF : 5000 ≤ F) (h : cS K I R n S c H) (hr : r < 8) (hq : q < 8) (ho : o < 8) (hA : S r = some A) (hB : S q = some B) (hc1 : c 1 = 0) (hc0 : c 0 = 1 ↔ hd = true) : ∃ v n1 K1 I1 R1, f_X6_join F n K I R 0 (nI r) (nI q) (nI o) = some (v, n1, K1, I1, R1) ∧ ((jn hd A B 0 0 [] = none ∧ v = -3 ∧ cS K1 I1 R1 n1 S c []) ∨ ∃ P tb, jn hd A B 0 0 [] = some (P, tb) ∧ v = nI (qSz P) ∧ cS K1 I1 R1 n1 (gUp S o (some P)) c []) := by
  obtain ⟨J, RM, h1, h2, h3⟩ := h
  obtain ⟨v, n1, K1, I1, R1, J1, e1, e2, e3⟩ := step_join F hF 0 K I R n zKm J RM (nI r) (nI q) (nI o) h1
  refine ⟨v, n1, K1, I1, R1, e1, ?_⟩
  rcases g_join hF (zSim_ctx h1).2.1 h2 h3 hr hq ho hA hB hc1 hc0 with ⟨a1, J2, a2, a3, a4⟩ | ⟨P, tb, J2, a1, a2, a3, a4⟩
  · have := pSome e2 a2
    simp only [Prod.mk.injEq] at this
    obtain ⟨rfl, rfl⟩ := this
    exact Or.inl ⟨a1, rfl, J1, RM, e3, a3, a4⟩
  · have := pSome e2 a2
    simp only [Prod.mk.injEq] at this
    obtain ⟨rfl, rfl⟩ := this
    exact Or.inr ⟨P, tb, a1, rfl, J1, RM, e3, a3, a4⟩
theorem c_node_e (hF : 5000 ≤ F) (h : cS K I R n S c H) (hr : r < 8) (hP : S r = none) : f_X6_node F K I R 0 (nI r) 0 0 = some (-2) := by
  obtain ⟨J, RM, h1, h2, h3⟩ := h
  obtain ⟨v, J1, e1, e2, e3⟩ := step_node F hF 0 K I R n zKm J RM (nI r) (nI 0) (nI 0) h1
  have := pSome e2 (g_node_e (zSim_ctx h1).2.1 h2 hr hP (by decide) (by decide))
  simp only [Prod.mk.injEq] at this
  rw [this.1] at e1
  exact e1
theorem c_node_n (hF : 5000 ≤ F) (h : cS K I R n S c H) (hr : r < 8) (hP : S r = some P) {i : Nat} (hi : i < 2 ^ 31) (hi2 : qSz P ≤ i) : f_X6_node F K I R 0 (nI r) (nI i) 0 = some (-9) := by
  obtain ⟨J, RM, h1, h2, h3⟩ := h
  obtain ⟨v, J1, e1, e2, e3⟩ := step_node F hF 0 K I R n zKm J RM (nI r) (nI i) (nI 0) h1
  have := pSome e2 (g_node_n (zSim_ctx h1).2.1 h2 hr hP hi hi2 (w := 0) (by decide))
  simp only [Prod.mk.injEq] at this
  rw [this.1] at e1
  exact e1
theorem c_covers (hF : 5000 ≤ F) (h : cS K I R n S c H) (hr : r < 8) (hq : q < 8) (hP : S r = some P) (hA : S q = some A) : ∃ I1 R1, f_X6_covers F K I R 0 (nI r) (nI q) = some (mi P A, I1, R1) ∧ cS K I1 R1 n S c H := by
  obtain ⟨J, RM, h1, h2, h3⟩ := h
  obtain ⟨v, I1, R1, J1, e1, e2, e3⟩ := step_covers F hF 0 K I R n zKm J RM (nI r) (nI q) h1
  obtain ⟨J2, a1, a2, a3⟩ := g_covers hF (zSim_ctx h1).2.1 h2 h3 hr hq hP hA
  have := pSome e2 a1
  simp only [Prod.mk.injEq] at this
  obtain ⟨rfl, rfl⟩ := this
  exact ⟨I1, R1, e1, J1, RM, e3, a2, a3⟩
theorem c_covers_e (hF : 5000 ≤ F) (h : cS K I R n S c H) (hr : r < 8) (hq : q < 8) (hP : S r = none ∨ S q = none) : ∃ I1 R1, f_X6_covers F K I R 0 (nI r) (nI q) = some (-2, I1, R1) ∧ cS K I1 R1 n S c H := by
  obtain ⟨J, RM, h1, h2, h3⟩ := h
  obtain ⟨v, I1, R1, J1, e1, e2, e3⟩ := step_covers F hF 0 K I R n zKm J RM (nI r) (nI q) h1
  have := pSome e2 (g_covers_e hF (zSim_ctx h1).2.1 h2 hr hq hP)
  simp only [Prod.mk.injEq] at this
  obtain ⟨rfl, rfl⟩ := this
  exact ⟨I1, R1, e1, J1, RM, e3, h2, h3⟩
theorem c_compare (hF : 5000 ≤ F) (h : cS K I R n S c H) (hr : r < 8) (hq : q < 8) (hP : S r = some P) (hA : S q = some A) : ∃ I1 R1, f_X6_compare F K I R 0 (nI r) (nI q) = some (cmpv P A, I1, R1) ∧ cS K I1 R1 n S c H := by
  obtain ⟨J, RM, h1, h2, h3⟩ := h
  obtain ⟨v, I1, R1, J1, e1, e2, e3⟩ := step_compare F hF 0 K I R n zKm J RM (nI r) (nI q) h1
  obtain ⟨J2, a1, a2, a3⟩ := g_compare hF (zSim_ctx h1).2.1 h2 h3 hr hq hP hA
  have := pSome e2 a1
  simp only [Prod.mk.injEq] at this
  obtain ⟨rfl, rfl⟩ := this
  exact ⟨I1, R1, e1, J1, RM, e3, a2, a3⟩
theorem c_filled (hF : 5000 ≤ F) (h : cS K I R n S c H) (hr : r < 8) (hq : q < 8) (hP : S r = some P) (hA : S q = some A) {f : pFl} (hf : mt P A 0 (fun _ => none) = some f) {h' w : Nat} (hh : h' < 10) (hw : w < 2) : ∃ I1 R1, f_X6_filled F K I R 0 (nI r) (nI q) (nI h') (nI w) = some (fv f h' w, I1, R1) ∧ cS K I1 R1 n S c H := by
  obtain ⟨J, RM, h1, h2, h3⟩ := h
  obtain ⟨v, I1, R1, J1, e1, e2, e3⟩ := step_filled F hF 0 K I R n zKm J RM (nI r) (nI q) (nI h') (nI w) h1
  obtain ⟨J2, a1, a2, a3⟩ := g_filled hF (zSim_ctx h1).2.1 h2 h3 hr hq hP hA hf hh hw
  have := pSome e2 a1
  simp only [Prod.mk.injEq] at this
  obtain ⟨rfl, rfl⟩ := this
  exact ⟨I1, R1, e1, J1, RM, e3, a2, a3⟩
theorem c_origin (hF : 5000 ≤ F) (h : cS K I R n S c H) (hr : r < 8) (hq : q < 8) (hA : S r = some A) (hB : S q = some B) (hc1 : c 1 = 0) (hc0 : c 0 = 1 ↔ hd = true) {tb : pTb} (hj : jn hd A B 0 0 [] = some (P, tb)) {h' w : Nat} (hh : h' < 10) (hw : w < 4) : ∃ n1 K1 I1 R1, f_X6_origin F n K I R 0 (nI r) (nI q) (nI h') (nI w) = some (ov tb h' w, n1, K1, I1, R1) ∧ cS K1 I1 R1 n1 S c [] := by
  obtain ⟨J, RM, h1, h2, h3⟩ := h
  obtain ⟨v, n1, K1, I1, R1, J1, e1, e2, e3⟩ := step_origin F hF 0 K I R n zKm J RM (nI r) (nI q) (nI h') (nI w) h1
  obtain ⟨J2, a1, a2, a3⟩ := g_origin hF (zSim_ctx h1).2.1 h2 h3 hr hq hA hB hc1 hc0 hj hh hw
  have := pSome e2 a1
  simp only [Prod.mk.injEq] at this
  obtain ⟨rfl, rfl⟩ := this
  exact ⟨n1, K1, I1, R1, e1, J1, RM, e3, a2, a3⟩
theorem c_covered (hF : 5000 ≤ F) (h : cS K I R n S c H) (hr : r < 8) (hP : S r = some P) : ∃ I1 R1, f_X6_covered F K I R 0 (nI r) = some (gCv S P 8 0 0, I1, R1) ∧ cS K I1 R1 n S c H := by
  obtain ⟨J, RM, h1, h2, h3⟩ := h
  obtain ⟨v, I1, R1, J1, e1, e2, e3⟩ := step_covered F hF 0 K I R n zKm J RM (nI r) h1
  obtain ⟨J2, a1, a2, a3⟩ := g_covered hF (zSim_ctx h1).2.1 h2 h3 hr hP
  have := pSome e2 a1
  simp only [Prod.mk.injEq] at this
  obtain ⟨rfl, rfl⟩ := this
  exact ⟨I1, R1, e1, J1, RM, e3, a2, a3⟩
theorem c_size (hF : 5000 ≤ F) (h : cS K I R n S c H) (hr : r < 8) (hP : S r = some P) {w : Nat} (hw : w < 5) : f_X6_size F K I R 0 (nI r) (nI w) = some (zsz (tmF P) (nI w)) := by
  obtain ⟨J, RM, h1, h2, h3⟩ := h
  obtain ⟨v, J1, e1, e2, e3⟩ := step_size F hF 0 K I R n zKm J RM (nI r) (nI w) h1
  obtain ⟨J2, a1, a2, a3⟩ := g_size hF (zSim_ctx h1).2.1 h2 h3 hr hP hw
  have := pSome e2 a1
  simp only [Prod.mk.injEq] at this
  rw [this.1] at e1
  exact e1
theorem c_told (hF : 5000 ≤ F) (h : cS K I R n S c H) {w : Nat} (hw : w < 4) : f_X6_told F K I R 0 (nI w) = some (c w) := by
  obtain ⟨J, RM, h1, h2, h3⟩ := h
  obtain ⟨v, e1, e2, e3⟩ := step_told F hF 0 K I R n zKm J RM (nI w) h1
  rw [pSome e2 (g_told (zSim_ctx h1).2.1 h2 hw)] at e1
  exact e1
theorem zSim_some {J : zI} {RM : zR} (hS : zSim 0 K I R n zKm J RM) (hb : gBl (J 90) 0 S c) (hr : r < 8) (hP : S r = some P) : ∃ t, R 3 r = some t := by
  rcases zSim_at hS hr with ⟨-, e⟩ | ⟨t, T, e, -⟩
  · exact absurd e (gBl_some hb hr hP).2.2
  · exact ⟨t, e⟩
theorem c_isLeast (hF : 5000 ≤ F) (h : cS K I R n S c H) (hr : r < 8) (hq : q < 8) (ht : t < 8) (hP : S r = some P) (hA : S q = some A) (hB : S t = some B) {tb : pTb} (hj : jn hd A B 0 0 [] = some (P, tb)) : ∃ I1 R1, f_X6_isLeast F K I R 0 (nI r) (nI q) (nI t) = some (1, I1, R1) ∧ cS K I1 R1 n S c H := by
  obtain ⟨J, RM, h1, h2, h3⟩ := h
  obtain ⟨t1, p1⟩ := zSim_some h1 h2 hr hP
  obtain ⟨t2, p2⟩ := zSim_some h1 h2 hq hA
  obtain ⟨t3, p3⟩ := zSim_some h1 h2 ht hB
  obtain ⟨v, I1, R1, J1, e1, e2, e3⟩ := isLeast_some hF h1 hr hq ht p1 p2 p3
  have hv := g_least hF (zSim_ctx h1).2.1 h2 hr hq ht hP hA hB hj e3 (by rw [(gBl_some h2 hq hA).1.1, (gBl_some h2 ht hB).1.1])
  rw [hv] at e1
  exact ⟨I1, R1, e1, J1, RM, e2, gBl_keep h2 fun x hx => e3.1 _ (by omega), gHi_keep h3 e3.2.1 fun x h1 h2 => e3.1 _ h2⟩
theorem c_joinAll (hF : 5000 ≤ F) (h : cS K I R n S c H) (ho : o < 8) {T U V : aFo} (hT : S 0 = some T) (hU : S 1 = some U) (hV : S 2 = some V) (hc1 : c 1 = 0) (hc0 : c 0 = 1 ↔ hd = true) : ∃ v n1 K1 I1 R1, f_X6_joinAll F n K I R 0 7 (nI o) = some (v, n1, K1, I1, R1) ∧ ((v = -3 ∧ cS K1 I1 R1 n1 S c []) ∨ ∃ Q tQ P tP, jn hd T U 0 0 [] = some (Q, tQ) ∧ jn hd Q V 0 0 [] = some (P, tP) ∧ v = nI (qSz P) ∧ cS K1 I1 R1 n1 (gUp S o (some P)) c []) := by
  obtain ⟨J, RM, h1, h2, h3⟩ := h
  obtain ⟨v, n1, K1, I1, R1, J1, e1, e2, e3⟩ := step_joinAll F hF 0 K I R n zKm J RM 7 (nI o) h1
  refine ⟨v, n1, K1, I1, R1, e1, ?_⟩
  rcases g_joinAll hF (zSim_ctx h1).2.1 h2 h3 ho hT hU hV hc1 hc0 with ⟨J2, a2, a3, a4⟩ | ⟨Q, tQ, P, tP, J2, a0, a1, a2, a3, a4⟩
  · have := pSome e2 a2
    simp only [Prod.mk.injEq] at this
    obtain ⟨rfl, rfl⟩ := this
    exact Or.inl ⟨rfl, J1, RM, e3, a3, a4⟩
  · have := pSome e2 a2
    simp only [Prod.mk.injEq] at this
    obtain ⟨rfl, rfl⟩ := this
    exact Or.inr ⟨Q, tQ, P, tP, a0, a1, rfl, J1, RM, e3, a3, a4⟩
theorem c_learn (hF : 5000 ≤ F) (h : cS K I R n S c H) {T U : aFo} (hT : S 0 = some T) (hU : S 1 = some U) (pT : pHF T) (pU : pHF U) (hc1 : c 1 = 0) (hc0 : c 0 = 1 ↔ hd = true) : ∃ n1 K1 I1 R1, f_X6_learn F n K I R 0 0 1 0 1 6 7 = some (1, n1, K1, I1, R1) ∧ cS K1 I1 R1 n1 (gUp (gUp S 6 (some T)) 7 (some U)) c [] := by
  obtain ⟨J, RM, h1, h2, h3⟩ := h
  obtain ⟨v, n1, K1, I1, R1, J1, e1, e2, e3⟩ := step_learn F hF 0 K I R n zKm J RM 0 1 0 1 6 7 h1
  obtain ⟨J2, a1, a2, a3⟩ := g_learn hF (zSim_ctx h1).2.1 h2 h3 hT hU pT pU hc1 hc0
  have := pSome e2 a1
  simp only [Prod.mk.injEq] at this
  obtain ⟨rfl, rfl⟩ := this
  exact ⟨n1, K1, I1, R1, e1, J1, RM, e3, a2, a3⟩
theorem c_apply (hF : 5000 ≤ F) (h : cS K I R n S c H) (hr : r < 8) (hq : q < 8) (ht : t < 8) (ho : o < 8) (hP : S r = some P) (hB : S q = some B) (hA : S t = some P) (pP : pHF P) (pB : pHF B) : ∃ n1 K1 I1 R1, f_X6_apply F n K I R 0 (nI r) (nI q) (nI t) (nI o) = some (nI (qSz B), n1, K1, I1, R1) ∧ cS K1 I1 R1 n1 (gUp S o (some B)) c [] := by
  obtain ⟨J, RM, h1, h2, h3⟩ := h
  obtain ⟨v, n1, K1, I1, R1, J1, e1, e2, e3⟩ := step_apply F hF 0 K I R n zKm J RM (nI r) (nI q) (nI t) (nI o) h1
  obtain ⟨J2, a1, a2, a3⟩ := g_apply hF (zSim_ctx h1).2.1 h2 h3 hr hq ht ho hP hB hA pP pB
  have := pSome e2 a1
  simp only [Prod.mk.injEq] at this
  obtain ⟨rfl, rfl⟩ := this
  exact ⟨n1, K1, I1, R1, e1, J1, RM, e3, a2, a3⟩
theorem c_apply_no (hF : 5000 ≤ F) (h : cS K I R n S c H) (hr : r < 8) (hq : q < 8) (ht : t < 8) (ho : o < 8) (hP : S r = some P) (hB : S q = some B) (hA : S t = some A) (hm : mv P A = false) : ∃ n1 K1 I1 R1, f_X6_apply F n K I R 0 (nI r) (nI q) (nI t) (nI o) = some (-2, n1, K1, I1, R1) ∧ cS K1 I1 R1 n1 S c H := by
  obtain ⟨J, RM, h1, h2, h3⟩ := h
  obtain ⟨v, n1, K1, I1, R1, J1, e1, e2, e3⟩ := step_apply F hF 0 K I R n zKm J RM (nI r) (nI q) (nI t) (nI o) h1
  obtain ⟨J2, a1, a2, a3⟩ := g_apply_no hF (zSim_ctx h1).2.1 h2 h3 hr hq ht ho hP hB hA hm
  have := pSome e2 a1
  simp only [Prod.mk.injEq] at this
  obtain ⟨rfl, rfl⟩ := this
  exact ⟨n1, K1, I1, R1, e1, J1, RM, e3, a2, a3⟩
theorem c_empty (hF : 5000 ≤ F) (h : cS K I R n S c H) (hl : H.length ≤ 4) (hr : r < 8) (hP : S r = some P) : ∃ I1 R1, f_X6_empty F K I R 0 (nI r) = some (nI (qSz P), I1, R1) ∧ cS K I1 R1 n (gUp S r none) c ((S, c) :: H) := by
  obtain ⟨J, RM, h1, h2, h3⟩ := h
  obtain ⟨v, I1, R1, J1, e1, e2, e3⟩ := step_empty F hF 0 K I R n zKm J RM (nI r) h1
  obtain ⟨J2, a1, a2, a3⟩ := g_empty hF (zSim_ctx h1).2.1 h2 h3 hl hr hP
  have := pSome e2 a1
  simp only [Prod.mk.injEq] at this
  obtain ⟨rfl, rfl⟩ := this
  exact ⟨I1, R1, e1, J1, RM, e3, a2, a3⟩
theorem c_set (hF : 5000 ≤ F) (h : cS K I R n S c H) (hl : H.length ≤ 4) {w v : Nat} (hw : w < 4) (hv : v ≤ if w < 2 then 1 else 8191) : ∃ I1 R1, f_X6_set F K I R 0 (nI w) (nI v) = some (c w, I1, R1) ∧ cS K I1 R1 n S (fun k => if k = w then nI v else c k) ((S, c) :: H) := by
  obtain ⟨J, RM, h1, h2, h3⟩ := h
  obtain ⟨x, I1, R1, J1, e1, e2, e3⟩ := step_set F hF 0 K I R n zKm J RM (nI w) (nI v) h1
  obtain ⟨J2, a1, a2, a3⟩ := g_set hF (zSim_ctx h1).2.1 h2 h3 hl hw hv
  have := pSome e2 a1
  simp only [Prod.mk.injEq] at this
  obtain ⟨rfl, rfl⟩ := this
  exact ⟨I1, R1, e1, J1, RM, e3, a2, a3⟩
theorem c_undo (hF : 5000 ≤ F) {u : gSt × (Nat → Int32)} (h : cS K I R n S c (u :: H)) : ∃ g I1 R1, g ≤ 6 ∧ f_X6_undo F K I R 0 = some (nI g, I1, R1) ∧ cS K I1 R1 n u.1 u.2 H := by
  obtain ⟨J, RM, h1, h2, h3⟩ := h
  obtain ⟨x, I1, R1, J1, e1, e2, e3⟩ := step_undo F hF 0 K I R n zKm J RM h1
  obtain ⟨g, J2, g6, a1, a2, a3⟩ := g_undo hF (zSim_ctx h1).2.1 h3
  have := pSome e2 a1
  simp only [Prod.mk.injEq] at this
  obtain ⟨rfl, rfl⟩ := this
  exact ⟨g, I1, R1, g6, e1, J1, RM, e3, a2, a3⟩
theorem c_put8 (hF : 5000 ≤ F) (h : cS K I R n S c H) : ∃ n1 K1 I1 R1, f_X6_put F n K I R 0 8 = some (-1, n1, K1, I1, R1) ∧ cS K1 I1 R1 n1 S c H := by
  obtain ⟨J, RM, h1, h2, h3⟩ := h
  obtain ⟨x, n1, K1, I1, R1, J1, e1, e2, e3⟩ := step_put F hF 0 K I R n zKm J RM 8 h1
  have := pSome e2 (g_put8 (F := F) (J := J) (RM := RM) (x := 8) (by decide))
  simp only [Prod.mk.injEq] at this
  obtain ⟨rfl, rfl⟩ := this
  exact ⟨n1, K1, I1, R1, e1, J1, RM, e3, h2, h3⟩
end CC
