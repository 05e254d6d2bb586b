/-! THE CLAIM OUT OF ONE WALK OF THE LAW'S BODY. Your part is whole_start (and what it stands on); all else here is the same for every law, but numbers. -/
def R_law : String := "LeastPatternsLaw"
def lw_P (b : Addr) (xs : List Int32) (args : Array Value) (s : State) : Prop := args = #[.ref b] ∧ s.IntsAt b xs ∧ xs.length ≤ 260 ∧ (Jvm.Cond.and given_1 narrow_1).before args s = true
def lw_Q (_ : Array Value) (s : State) (o : Outcome) (t : State) : Prop := o = .returned (some (.int 1)) ∧ Framed s o t [] 600000 7302250
def lw_Z (below : List Frame) (a : Array Value) (s : State) : State → Prop := fun t => ∃ o, t.status = .running ∧ Ended t below o ∧ lw_Q a s o t
/-- the law's own end, with 1 on the stack, nothing written that was there before, its room as the claim has it -/
theorem lw_ret {p : Program} {l : Launch} {e : Env} {s : State} {m : MethodId} {below : List Frame} {meth : Method} {c : Code} {b : Nat} (hx : p.tables.exec = Jvm.exec) (hb : c.code = code) (hr : meth.sig.returnType = ret) (hlocks : meth.locks = false) {pc : Nat} {H : Heap} {ls : Array Slot} (hdg : decode code pc = .ok (.ireturn, 1)) : W p l e room_1 s m #[Value.ref b] below meth c H [] 600000 7302250 (lw_Z below #[Value.ref b] s) (F0 m pc ls [.int 1]) := by
  intro T hT X
  obtain ⟨fs, hret, hrun, hended, hW, hframe⟩ := X.leave (v := some (.int 1)) (hlocks := hlocks) (fun h => by rw [hr] at h; cases h)
  have hmeth' : T.vm.method? m = some meth := X.method'
  refine ⟨T.setFrames fs, ?_, .returned (some (.int 1)), hrun, hended, rfl, ⟨_, rfl⟩, hW, hframe⟩
  jvm_step X.here [X.here.top, hx, hb, hdg, hmeth', hr, ret, narrow_b1]
  (try refine ⟨rfl, ?_⟩); (try refine ⟨rfl, ?_⟩)
  first | (intro acts; rw [hret _ acts rfl rfl rfl]) | rw [hret _ _ rfl rfl rfl]
  exact Steps.refl _
/-- what holds at the law's entry: the machine, the code, the tables' words (any of lw_tbl by 'hts w (by decide +kernel)'), the script of L ints xs at the cell b, what the Statement gives of the start (any of its parts by flat_of_before) -/
def lw_At (p : Program) (s : State) (m : MethodId) (meth : Method) (c : Code) (b L : Nat) (xs : Nat → Int32) : Prop :=
  p.tables.exec = Jvm.exec ∧ c.code = code ∧ meth.sig.returnType = ret ∧ c.maxLocals = 6 ∧ s.vm.findClass R_law = some m.cls ∧ (∀ w ∈ lw_tbl, w.before #[Value.ref b] s = true) ∧ va_X b L xs s s.heap ∧ b < s.heap.size ∧ meth.locks = false ∧ (Jvm.Cond.and given_1 narrow_1).before #[Value.ref b] s = true
theorem zc_none {D : zD} {B : Nat} {I : zI} {R : zR} {H : Heap} {a : Nat} : zc D B (fun _ => (0, 0)) I R H a := by
  refine ⟨fun t ht h => ?_, fun t ht h => ?_, fun ci r h => ?_⟩
  · have h : 0 = t := h
    omega
  · have h : 0 = t := h
    omega
  · have h : 0 = ci + 10 := h
    omega
/-- the classes and arrays that the tables name -/
theorem zKN_start {s : State} {args : Array Value} (hts : ∀ w ∈ lw_tbl, w.before args s = true) : ∃ D : zD, zKN D s := by
  have hin : ∀ (ci : Nat) (r : vw_C), vwCl[ci]? = some r → ∃ (cC : ClassId) (iS : Nat → Nat), u_Kn s r.1 r.2.1 r.2.2 cC iS := by
    intro ci r hc
    match ci, hc with
    | 0, hc => cases hc; exact u_known hts zinl0 (hts (.instantiable RX0 13) (kci_X0))
    | 1, hc => cases hc; exact u_known hts zinl1 (hts (.instantiable RX1 8) (kci_X1))
    | 2, hc => cases hc; exact u_known hts zinl2 (hts (.instantiable RX2 9) (kci_X2))
    | 3, hc => cases hc; exact u_known hts zinl3 (hts (.instantiable RX3 5) (kci_X3))
    | 4, hc => cases hc; exact u_known hts zinl4 (hts (.instantiable RX4 2) (kci_X4))
    | 5, hc => cases hc; exact u_known hts zinl5 (hts (.instantiable RX5 4) (kci_X5))
    | 6, hc => cases hc; exact u_known hts zinl6 (hts (.instantiable RX6 11) (kci_X6))
    | k + 7, hc => simp [vwCl] at hc
  have hch : ∀ ci : Nat, ∃ (cC : ClassId) (iS : Nat → Nat), ∀ r, vwCl[ci]? = some r → u_Kn s r.1 r.2.1 r.2.2 cC iS := by
    intro ci
    cases h : vwCl[ci]? with
    | none => exact ⟨0, fun _ => 0, fun r hr => by cases hr⟩
    | some r =>
      obtain ⟨cC, iS, hk⟩ := hin ci r h
      exact ⟨cC, iS, fun r' hr => by cases hr; exact hk⟩
  have arrP : ∀ ty : FieldType, Cond.arrayClass ty ∈ lw_tbl → (∀ C, ty ≠ .object C) → ∃ cA : ClassId, ArrOfT s cA ty ∧ va_RA s cA ty := by
    intro ty hm hne
    obtain ⟨cA, kA, comp, h1, h2, h3⟩ := Cond.arrayClass_spec (hts _ hm)
    refine ⟨cA, fun n z => ⟨fun k h => (by cases h), kA, h2, comp, h3⟩, ?_⟩
    cases ty with
    | object C => exact absurd rfl (hne C)
    | _ => exact h1
  have arrR : ∀ C : String, Cond.arrayOver (.object C) ∈ lw_tbl → ∃ cA : ClassId, ArrOfT s cA (.object C) ∧ va_RA s cA (.object C) := by
    intro C hm
    obtain ⟨comp, cA, kA, h1, -, h3, h4, h5⟩ := Cond.arrayOver_spec (hts _ hm)
    exact ⟨cA, fun n z => ⟨fun k h => (by cases h), kA, h3, comp, h4⟩, kA, comp, h3, h4, h1, h5⟩
  obtain ⟨cI, hI⟩ := arrP .int kar_int (fun C h => by cases h)
  obtain ⟨cZ, hZ⟩ := arrP .boolean kar_boolean (fun C h => by cases h)
  obtain ⟨c4, h4⟩ := arrR RX4 kov_X4
  obtain ⟨c5, h5⟩ := arrR RX5 kov_X5
  refine ⟨((fun ci => Classical.choose (hch ci), fun ci => Classical.choose (Classical.choose_spec (hch ci))), fun t => if t = 1 then cI else if t = 2 then cZ else if t = 3 then c4 else c5), fun w hw hk => zw_warm (State.WarmedH.refl s) hk (hts w hw), fun ci q hq => Classical.choose_spec (Classical.choose_spec (hch ci)) q hq, fun k q hq => ?_⟩
  match k, hq with
  | 0, hq => cases hq; exact hI
  | 1, hq => cases hq; exact hZ
  | 2, hq => cases hq; exact h4
  | 3, hq => cases hq; exact h5
  | k + 4, hq => simp at hq
section ZL
variable {p : Program} {l : Launch} {e : Env} {R0 : Room} {s : State} {m : MethodId} {args : Array Value} {below : List Frame} {meth : Method} {c : Code} {H : Heap} {locs : List Loc} {cells slots mc ms : Nat} {Q : State → Prop}
variable {cc : ByteArray} {nL : Nat} {own : String} {pc : Nat} {ls : Array Slot} {rest st0 : List Value} {A : Nat → Prop} {D : zD} {B n n' : Nat} {K K' K2 : zK} {I I' I2 : zI} {R R' R2 : zR} {H0 : Heap} {av : Array Value}
theorem zl_other {H1 : Heap} {locs1 : List Loc} (hV : zS A D B n K2 I2 R2 H0 H locs) (hdj : ∀ b, (K b).1 = 0 ∨ (K2 b).1 = 0) (hlt : ∀ b, (K2 b).1 ≠ 0 → b < n) (hsz : H1.size = B + n') (hk : ∀ q, q < H.size → ¬ zOwn B K (B + n) q → H1[q]? = H[q]?) (hS : va_S A H0 H1 locs1) : zS A D B n' K2 I2 R2 H0 H1 locs1 := by
  refine ⟨⟨fun b => (hV.1.1 b).kept (fun hb => hk _ ?_ ?_) rfl rfl rfl, hsz⟩, hS, hV.2.2.1, hV.2.2.2⟩
  · have h1 := hV.1.2
    have h2 := hlt b hb
    omega
  · rintro (⟨a, h1, h2⟩ | h)
    · have h3 : a = b := by omega
      subst h3
      rcases hdj a with h | h
      · exact h2 h
      · exact hb h
    · have h2 := hlt b hb
      omega
variable {post1 : Int32}
/-- a call in one world beside another; what the new world owns was owned or is new -/
theorem zl_2I {v : Int32} (hr : va_Run p l e R0 s m args below meth c H locs cells slots mc ms (F0 m pc ls st0) rest (zQi D (zOwn B K (B + n)) v B n' K' I' R' av) (zOwn B K (B + n))) (hW : zS A D B n K I R H0 H locs) (hV : zS A D B n K2 I2 R2 H0 H locs) (hdj : ∀ b, (K b).1 = 0 ∨ (K2 b).1 = 0) (hlt : ∀ b, (K2 b).1 ≠ 0 → b < n)
    (kk : ∀ (H1 : Heap) (locs1 : List Loc), zS A D B n' K' I' R' H0 H1 locs1 → zS A D B n' K2 I2 R2 H0 H1 locs1 → (∀ b, (K' b).1 = 0 ∨ (K2 b).1 = 0) → W p l e R0 s m args below meth c H1 locs1 (cells + mc) (slots + ms) Q (F0 m (pc + 3) ls (.int v :: rest))) : W p l e R0 s m args below meth c H locs cells slots Q (F0 m pc ls st0) :=
  va_calli hr hW.2.1 (fun q _ h => zOwn_sub hW q h) (zOwn_sub hW) fun r u t H1 locs1 ht _ hpost hb _ hk hS => by
    subst hpost
    refine kk H1 locs1 (zafter hW ht hb hS) (zl_other hV hdj hlt (by rw [← ht]; exact hb.1.2) hk hS) (fun b => ?_)
    by_cases e1 : (K' b).1 = 0
    · exact Or.inl e1
    · refine Or.inr ?_
      by_cases e2 : (K2 b).1 = 0
      · exact e2
      · have e3 := hlt b e2
        rcases hb.2 b e1 with ⟨a, h1, h2⟩ | h
        · have h3 : a = b := by omega
          subst h3
          rcases hdj a with h | h
          · exact absurd h h2
          · exact h
        · omega
/-- the script's cell k -/
def lcell (L : Nat) (xs : Nat → Int32) (j : Nat) : Int32 := (if Int32.ofNat L ≤ nI j then (15486059 : Int32) * nI j + 1103 else xs (nI j).toNatClampNeg) &&& 2147483647
set_option maxHeartbeats 1000000 in
theorem c_cell (l : Launch) (D : zD) {H0 : Heap} {b L j : Nat} {xs : Nat → Int32} (hj : j < 7) (hL : L ≤ 260) (hbl : b < H0.size) : Met l yL_cell [Cond.code yL_cell cL_cell 2 (some .int)] ({ frames := 1, cells := 0, slots := 0, locals := 40 } : Room) (va_Pc [.ref b, .int (nI j)] (fun U => zKN D U ∧ U.heap = H0 ∧ va_X b L xs U H0)) (va_Qi (fun x (_ : Unit) => x = lcell L xs j) (fun _ t => t.heap = H0) (fun _ => False)) 0 0 (fun _ => False) := by
  refine Met.ofW (cc := cL_cell) (maxL := 2) (ret := some .int) (by decide) rfl ?_
  intro p e s m args below meth c s₁ Bd hml hv
  obtain ⟨rfl, hKN, hH, hX⟩ := hv
  have X : zX p s m c cL_cell 2 RL D := ⟨Bd.exec, Bd.bytes, hml, findClass_of_methodNamed Bd.named, hKN⟩
  have hX' : va_X b L xs s s.heap := by rw [hH]; exact hX
  have hbl' : b < s.heap.size := by rw [hH]; exact hbl
  have hF : ∀ t : State, t.heap = s.heap → va_F (fun _ => False) s t := fun t ht => ⟨by rw [ht]; exact Nat.le_refl _, fun q _ _ => by rw [ht]⟩
  rw [lg_entry_eq]
  have hl := lv_entry ([.ref b, .int (nI j)]) (n := 2) (Nat.le_of_ble_eq_true rfl)
  generalize (lg_sl ([.ref b, .int (nI j)]) ++ List.replicate (2 - (lg_sl ([.ref b, .int (nI j)])).length) Slot.unset).toArray = ls at hl ⊢
  have hl : lv_has ls 2 [(0, .ref b), (1, .int (nI j))] := hl
  refine lv_iload_n X.1 X.2.1 dL_cell_0 rfl (lv_at hl 1 rfl) ?_
  refine lv_aload_n X.1 X.2.1 dL_cell_1 rfl (lv_at hl 0 rfl) ?_
  refine va_slen (A := fun _ => False) X.1 X.2.1 hX' hbl' (fun h => h) va_S.rf dL_cell_2 ?_
  refine lv_icmp_ge (tgt := 12) X.1 X.2.1 dL_cell_3 (by decide) (fun cc => ?_) (fun cc => ?_)
  · refine lv_ldc X.1 X.2.1 X.2.2.2.1 (X.2.2.2.2.use kcn_L_7 rfl) dL_cell_12 ?_
    refine lv_iload_n X.1 X.2.1 dL_cell_14 rfl (lv_at hl 1 rfl) ?_
    refine lv_imul X.1 X.2.1 dL_cell_15 ?_
    refine lv_sipush (v := 1103) X.1 X.2.1 dL_cell_16 (by decide) ?_
    refine lv_iadd X.1 X.2.1 dL_cell_19 ?_
    refine lv_ldc X.1 X.2.1 X.2.2.2.1 (X.2.2.2.2.use kcn_L_8 rfl) dL_cell_20 ?_
    refine lv_iand X.1 X.2.1 dL_cell_22 ?_
    exact W.iret X.1 X.2.1 Bd.returns (fun t ht _ => ⟨⟨_, (), rfl, by unfold lcell; rw [if_pos cc], ht.trans hH⟩, hF t ht⟩) (fun _ h => by cases h) dL_cell_23 Bd.notSynchronized
  · have hjL : j < L := by
      rcases Nat.lt_or_ge j L with h | h
      · exact h
      · exact absurd (show Int32.ofNat L ≤ nI j from nI_le (a := L) h (by omega)) cc
    refine lv_aload_n X.1 X.2.1 dL_cell_6 rfl (lv_at hl 0 rfl) ?_
    refine lv_iload_n X.1 X.2.1 dL_cell_7 rfl (lv_at hl 1 rfl) ?_
    refine va_sld (A := fun _ => False) X.1 X.2.1 hX' hbl' (fun h => h) va_S.rf (nI_in hjL (by omega)) dL_cell_8 ?_
    refine lv_goto (tgt := 20) X.1 X.2.1 dL_cell_9 (by decide) ?_
    refine lv_ldc X.1 X.2.1 X.2.2.2.1 (X.2.2.2.2.use kcn_L_8 rfl) dL_cell_20 ?_
    refine lv_iand X.1 X.2.1 dL_cell_22 ?_
    exact W.iret X.1 X.2.1 Bd.returns (fun t ht _ => ⟨⟨_, (), rfl, by unfold lcell; rw [if_neg cc], ht.trans hH⟩, hF t ht⟩) (fun _ h => by cases h) dL_cell_23 Bd.notSynchronized
/-- the law asks the script -/
theorem zl_cell (X : zX p s m c cL_law 6 RL D) {b L : Nat} {xs : Nat → Int32} (j : Nat) (hj : j < 7) (hL : L ≤ 260) (hX : va_X b L xs s s.heap) (hbl : b < s.heap.size) (hW : zS (fun q : Nat => s.heap.size ≤ q) D B n K I R s.heap H locs) (hsize : ls.size = 6) (hcat : (rest.map fun v => v.category).sum ≤ 8) (hdg : decode cL_law pc = .ok (.invokestatic 85, 3)) (hR : 2 ≤ R0.frames ∧ 61 ≤ R0.locals) (hf : cells ≤ R0.cells ∧ slots ≤ R0.slots)
    (kk : ∀ (locs1 : List Loc), zS (fun q : Nat => s.heap.size ≤ q) D B n K I R s.heap H locs1 → W p l e R0 s m args below meth c H locs1 cells slots Q (F0 m (pc + 3) ls (.int (lcell L xs j) :: rest))) : W p l e R0 s m args below meth c H locs cells slots Q (F0 m pc ls (.int (nI j) :: .ref b :: rest)) := by
  have hbA : ¬ (fun q : Nat => s.heap.size ≤ q) b := Nat.not_le.mpr hbl
  have hXH : va_X b L xs s H := hX.kept (hW.2.1.2.1 b hbl hbA)
  have hbH : b < H.size := Nat.lt_of_lt_of_le hbl hW.2.1.1
  have hr : va_Run p l e R0 s m args below meth c H locs cells slots 0 0 (F0 m pc ls (.int (nI j) :: .ref b :: rest)) rest (va_Qi (fun x (_ : Unit) => x = lcell L xs j) (fun _ t => t.heap = H) (fun _ => False) [Value.ref b, .int (nI j)].toArray) (fun _ => False) :=
    va_runS (As := [.ref b, .int (nI j)]) (zfix X) (c_cell l D hj hL hbH) ⟨zcb X vL_cell.1 vL_cell.2.1 vL_cell.2.2.1 kml_L_85 hR, X.2.2.2.2.use vL_cell.2.2.2 rfl⟩ ⟨fun a U g mk q => ⟨q.1, q.2.1.blind g mk a, q.2.2.1, va_X.moved (u := U) (State.WarmedH.refl U).alike q.2.2.2⟩, fun U hU hw => ⟨rfl, X.2.2.2.2.warm hw, hU, va_X.moved hw.alike hXH⟩⟩ rfl rfl hsize rfl (lv_room hcat) hdg ⟨by omega, by omega⟩
  exact va_calli hr hW.2.1 (fun q _ h => h.elim) (fun q h => h.elim) fun r u t H1 locs1 ht _ hpost hb _ _ hS => by
    subst hpost
    have e : H1 = H := by rw [← ht]; exact hb
    subst e
    exact kk locs1 ⟨hW.1, hS, hW.2.2.1, hW.2.2.2⟩
end ZL
/-! BIRTH -/
/-- before the terms are put: the object as it was born, the three rows -/
def dIn (K : zK) (I : zI) (R : zR) (n : Nat) : Prop := 92 ≤ n ∧ (∀ a, a < 89 → K a = zKt a) ∧ (∀ a, 89 ≤ a → a < 92 → K a = (1, 63)) ∧ (∀ a, n ≤ a → K a = (0, 0)) ∧ (∀ a, a < 89 → ∀ k, k < 13 → R a k = zRt a k) ∧ ∀ a, a < 89 → ∀ k, k < 90 → I a k = zIt a k
/-- a row holds a term -/
def lRow (I : zI) (a : Nat) (G : aFo) : Prop := qLn G = 1 ∧ qHt G ≤ 6 ∧ qSz G ≤ 14 ∧ dN G ∧ dRw (I a) (qLi G) ∧ I a 62 = nI (qSz G)
theorem lRow_keep {I I' : zI} {a : Nat} {G : aFo} (h : lRow I a G) (hI : I' a = I a) : lRow I' a G := by
  unfold lRow
  rw [hI]
  exact h
theorem birth_cS {K : zK} {I : zI} {R : zR} {n : Nat} (h : dIn K I R n) : cS K I R n (fun _ => none) (fun _ => 0) [] := by
  obtain ⟨hn, hK, -, hK0, hR, hI⟩ := h
  have r3 : ∀ r, r < 8 → zRt 3 r = none := by decide +kernel
  have r5 : ∀ j, j < 6 → ∃ a, a < 89 ∧ zRt 5 j = some a ∧ (a = 71 ∨ a = 74 ∨ a = 77 ∨ a = 80 ∨ a = 83 ∨ a = 86) := by decide +kernel
  have r55 : ∀ i, i < 6 → ∀ j, j < 6 → zRt 5 i = zRt 5 j → i = j := by decide +kernel
  obtain ⟨J, hJ⟩ : ∃ J : zI, J = fun a k => if a = 89 ∧ k = 4 then (-9 : Int32) else 0 := ⟨_, rfl⟩
  have hJ4 : J 89 4 = -9 := by rw [hJ]; rfl
  have hJ0 : ∀ a k, ¬ (a = 89 ∧ k = 4) → J a k = 0 := fun a k hne => by rw [hJ]; exact if_neg hne
  refine ⟨J, zRt, ⟨⟨hn, hK, fun a h1 h2 => by omega, hK0, fun a k hf => ?_, rfl, fun a k _ _ _ => rfl⟩, ⟨0, by decide, ?_, ?_, fun i hi => by omega⟩, ?_, ⟨fun r hr => ?_, fun k hk => ?_, fun k hk => ?_, fun k hk => ?_⟩, 0, by decide, ?_, ?_, fun j hj => ?_, fun i j hi hj hij => ?_⟩, ⟨fun r hr => Or.inl ⟨rfl, hJ0 90 _ (by omega)⟩, fun k hk => hJ0 90 _ (by omega)⟩, 0, by decide, hJ0 89 1 (by decide), fun x v hv => by cases hv⟩
  · have h1 := hf
    unfold zFin at h1
    exact hR a h1.1 k (by omega)
  · rw [hI 0 (by decide) 1 (by decide)]; rfl
  · rw [hJ0 89 3 (by decide)]; rfl
  · rw [hI 0 (by decide) 2 (by decide), hJ4]; rfl
  · show zRg K I R n (R 3 r) (J 90) (0 + 97 * r)
    rw [hR 3 (by decide) r (by omega), r3 r hr]
    exact hJ0 90 _ (by omega)
  · have h1 : ∀ k, k < 4 → zIt 4 k = 0 := by decide +kernel
    rw [hI (2 + 2) (by decide) k (by omega), h1 k hk]
    exact (hJ0 90 _ (by omega)).symm
  · exact Or.inl (hJ0 90 _ (by omega))
  · rw [hJ0 90 _ (by omega)]
    exact ⟨by decide, by decide⟩
  · rw [hI 0 (by decide) 5 (by decide)]; rfl
  · rw [hJ0 89 1 (by decide)]; rfl
  · obtain ⟨a, h1, h2, h3⟩ := r5 j hj
    exact ⟨a, by rw [hR 5 (by decide) j (by omega)]; exact h2, h3, fun h => by omega⟩
  · rw [hR 5 (by decide) i (by omega), hR 5 (by decide) j (by omega)] at hij
    exact r55 i hi j hj hij
theorem d_draw {F : Nat} (hF : 5000 ≤ F) {K : zK} {I : zI} {R : zR} {n a : Nat} (h : dIn K I R n) (ha : 89 ≤ a) (ha2 : a < 92) (x1 x2 : Int32) : ∃ (G : aFo) (I' : zI), f_L_draws F n K I R (some a) x1 x2 14 = some (n + 1, zset K n (1, 8), I', R) ∧ dIn (zset K n (1, 8)) I' R (n + 1) ∧ lRow I' a G ∧ ∀ b, b < 92 → b ≠ a → I' b = I b := by
  obtain ⟨hn, hK, hK2, hK0, hR, hI⟩ := h
  obtain ⟨G, I', e1, e2, e3, e4, e5, e6, e7, e8⟩ := l_draws (R := R) (I := I) (x1 := x1) (x2 := x2) hF (hK2 a ha ha2) (show a < n by omega)
  have z : ∀ b, b ≠ n → zset K n (1, 8) b = K b := fun b hb => by unfold zset; rw [if_neg hb]
  refine ⟨G, I', e1, ⟨by omega, fun b hb => by rw [z b (by omega)]; exact hK b hb, fun b b1 b2 => by rw [z b (by omega)]; exact hK2 b b1 b2, fun b hb => by rw [z b (by omega)]; exact hK0 b (by omega), hR, fun b hb k hk => by rw [e8 b (by omega) (by omega)]; exact hI b hb k hk⟩, ⟨e2, e3, e4, e5, e6, e7⟩, fun b hb hne => e8 b hne (by omega)⟩
/-! THE CLASS BESIDE THE LAW'S ROWS -/
theorem zRg_kk {K K' : zK} {I : zI} {R : zR} {n o : Nat} {x : Option Nat} {P : Nat → Int32} (h : zRg K I R n x P o) (hK : ∀ b, 92 ≤ b → K' b = K b) : zRg K' I R n x P o := by
  cases x with
  | none => exact h
  | some t =>
    obtain ⟨h1, h2, T, h3, h4, h5⟩ := h
    exact ⟨h1, h2, T, h3, zTc_keep h4 (fun b g1 g2 => ⟨hK b (by omega), rfl, rfl⟩), h5⟩
theorem cS_kk {K K' : zK} {I : zI} {R : zR} {n : Nat} {S : gSt} {c : Nat → Int32} {H : List (gSt × (Nat → Int32))} (h : cS K I R n S c H) (hK : ∀ b, b < 89 ∨ 92 ≤ b → K' b = K b) : cS K' I R n S c H := by
  obtain ⟨J, RM, h1, h2⟩ := h
  obtain ⟨⟨c1, c2, c3, c4, c5, c6, c7⟩, b1, b2, ⟨d1, d2⟩, g, g1, g2, g3, g4, g5⟩ := h1
  refine ⟨J, RM, ⟨⟨c1, fun a ha => by rw [hK a (Or.inl ha)]; exact c2 a ha, fun a a1 a2 => by omega, fun a ha => by rw [hK a (Or.inr (by omega))]; exact c4 a ha, c5, c6, c7⟩, b1, b2, ⟨fun r hr => zRg_kk (d1 r hr) (fun b hb => hK b (Or.inr hb)), d2⟩, g, g1, g2, g3, fun j hj => ?_, g5⟩, h2⟩
  obtain ⟨s, s1, s2, s3⟩ := g4 j hj
  refine ⟨s, s1, s2, fun hlt => ?_⟩
  obtain ⟨t1, t2⟩ := s3 hlt
  exact ⟨fun r hr => zRg_kk (t1 r hr) (fun b hb => hK b (Or.inr hb)), t2⟩
def kC (K : zK) : zK := fun a => if 89 ≤ a ∧ a < 92 then (0, 0) else K a
def kR : zK := fun a => if a = 89 then (1, 63) else (0, 0)
section ZV
variable {A : Nat → Prop} {D : zD} {B n : Nat} {K : zK} {I : zI} {R : zR} {H0 H : Heap} {locs : List Loc}
theorem zS_C (h : zS A D B n K I R H0 H locs) : zS A D B n (kC K) I R H0 H locs := by
  obtain ⟨⟨h1, h2⟩, h3, h4, h5⟩ := h
  have e : ∀ a, ¬ (89 ≤ a ∧ a < 92) → kC K a = K a := fun a ha => if_neg ha
  have e0 : ∀ a, (89 ≤ a ∧ a < 92) → kC K a = (0, 0) := fun a ha => if_pos ha
  refine ⟨⟨fun a => ?_, h2⟩, h3, fun a ha => ?_, h5⟩
  · by_cases ha : 89 ≤ a ∧ a < 92
    · refine ⟨fun t ht h => ?_, fun t ht h => ?_, fun ci r h => ?_⟩
      · rw [e0 a ha] at h; have h : 0 = t := h; omega
      · rw [e0 a ha] at h; have h : 0 = t := h; omega
      · rw [e0 a ha] at h; have h : 0 = ci + 10 := h; omega
    · exact (h1 a).kept (fun _ => rfl) rfl rfl (e a ha)
  · by_cases hb : 89 ≤ a ∧ a < 92
    · rw [e0 a hb] at ha; exact absurd rfl ha
    · rw [e a hb] at ha; exact h4 a ha
theorem zS_R (h : zS A D B n K I R H0 H locs) (hK : K 89 = (1, 63)) : zS A D B n kR I R H0 H locs := by
  obtain ⟨⟨h1, h2⟩, h3, h4, h5⟩ := h
  have e0 : ∀ a, a ≠ 89 → kR a = (0, 0) := fun a ha => if_neg ha
  refine ⟨⟨fun a => ?_, h2⟩, h3, fun a ha => ?_, h5⟩
  · by_cases hb : a = 89
    · subst hb
      exact (h1 89).kept (fun _ => rfl) rfl rfl (by rw [hK]; rfl)
    · refine ⟨fun t ht h => ?_, fun t ht h => ?_, fun ci r h => ?_⟩
      · rw [e0 a hb] at h; have h : 0 = t := h; omega
      · rw [e0 a hb] at h; have h : 0 = t := h; omega
      · rw [e0 a hb] at h; have h : 0 = ci + 10 := h; omega
  · by_cases hb : a = 89
    · subst hb
      exact h4 89 (by rw [hK]; decide)
    · rw [e0 a hb] at ha; exact absurd rfl ha
theorem kCR (b : Nat) : (kC K b).1 = 0 ∨ (kR b).1 = 0 := by
  by_cases h : b = 89
  · subst h; exact Or.inl rfl
  · exact Or.inr (by unfold kR; rw [if_neg h])
theorem kR_lt (hn : 92 ≤ n) (b : Nat) (h : (kR b).1 ≠ 0) : b < n := by
  by_cases e : b = 89
  · omega
  · unfold kR at h; rw [if_neg e] at h; exact absurd rfl h
end ZV
theorem and1 (y : Int32) : ∃ v, v ≤ 1 ∧ y &&& (1 : Int32) = nI v := by
  refine ⟨y.toBitVec.toNat % 2, by have := Nat.mod_lt y.toBitVec.toNat (show 0 < 2 by decide); omega, ?_⟩
  apply Int32.toBitVec_inj.mp
  apply BitVec.eq_of_toNat_eq
  rw [Int32.toBitVec_and, BitVec.toNat_and]
  show y.toBitVec.toNat &&& 1 = (BitVec.ofNat 32 (y.toBitVec.toNat % 2)).toNat
  have h : y.toBitVec.toNat &&& 1 = y.toBitVec.toNat % 2 := Nat.and_two_pow_sub_one_eq_mod _ 1
  have h2 : y.toBitVec.toNat % 2 < 2 := Nat.mod_lt _ (by decide)
  rw [BitVec.toNat_ofNat, h, Nat.mod_eq_of_lt (a := y.toBitVec.toNat % 2) (by omega)]
