/-! ROWS: new objects and arrays, calls, entry and return -/
theorem zcat (B : Nat) (x : Option Nat) : (zrf B x).category = 1 := by cases x <;> rfl
theorem zrf_some (B a : Nat) : zrf B (some a) = .ref (B + a) := rfl
theorem zcat_i (x : Int32) : (Value.int x).category = 1 := rfl
theorem zcat_r (x : Nat) : (Value.ref x).category = 1 := rfl
theorem zcat_l (x : Int64) : (Value.long x).category = 2 := rfl
theorem zh_if {α : Type} {c : Prop} [Decidable c] {a : Option α} {r : α} (h : (if c then a else none) = some r) : c ∧ a = some r := by
  split at h
  · exact ⟨‹_›, h⟩
  · cases h
theorem zdef0 : ∀ k, k < 13 → defaultValue (tyX0 k) = (match zrk 0 k with | true => .null | false => .int 0) := by decide +kernel
theorem zdef1 : ∀ k, k < 8 → defaultValue (tyX1 k) = (match zrk 1 k with | true => .null | false => .int 0) := by decide +kernel
theorem zdef2 : ∀ k, k < 9 → defaultValue (tyX2 k) = (match zrk 2 k with | true => .null | false => .int 0) := by decide +kernel
theorem zdef3 : ∀ k, k < 5 → defaultValue (tyX3 k) = (match zrk 3 k with | true => .null | false => .int 0) := by decide +kernel
theorem zdef4 : ∀ k, k < 2 → defaultValue (tyX4 k) = (match zrk 4 k with | true => .null | false => .int 0) := by decide +kernel
theorem zdef5 : ∀ k, k < 4 → defaultValue (tyX5 k) = (match zrk 5 k with | true => .null | false => .int 0) := by decide +kernel
theorem zdef6 : ∀ k, k < 11 → defaultValue (tyX6 k) = (match zrk 6 k with | true => .null | false => .int 0) := by decide +kernel
theorem zty2 {ci : Nat} {r : vw_C} (hc : vwCl[ci]? = some r) : ∃ ty0 : Nat → FieldType, (∀ k, k < r.2.2 → parseFieldDescriptor (r.2.1 k).2.2.1 = some (ty0 k)) ∧ (∀ k, k < r.2.2 → defaultValue (ty0 k) = (match zrk ci k with | true => .null | false => .int 0)) := by
  match ci, hc with
  | 0, hc => cases hc; exact ⟨_, tyX0_ok, zdef0⟩
  | 1, hc => cases hc; exact ⟨_, tyX1_ok, zdef1⟩
  | 2, hc => cases hc; exact ⟨_, tyX2_ok, zdef2⟩
  | 3, hc => cases hc; exact ⟨_, tyX3_ok, zdef3⟩
  | 4, hc => cases hc; exact ⟨_, tyX4_ok, zdef4⟩
  | 5, hc => cases hc; exact ⟨_, tyX5_ok, zdef5⟩
  | 6, hc => cases hc; exact ⟨_, tyX6_ok, zdef6⟩
  | k + 7, hc => simp [vwCl] at hc
/-- a method's start: its arguments, what the tables say, the heap -/
def zPc (D : zD) (B n : Nat) (K : zK) (I : zI) (R : zR) (av : List Value) : Array Value → State → Prop := va_Pc av (fun U => zKN D U ∧ zU D B n K I R U.heap)
def zPost (D : zD) (A : Nat → Prop) (B n : Nat) (K : zK) (I : zI) (R : zR) (t : State) : Prop := zU D B n K I R t.heap ∧ ∀ a, (K a).1 ≠ 0 → A (B + a)
def zQi (D : zD) (A : Nat → Prop) (r : Int32) (B n : Nat) (K : zK) (I : zI) (R : zR) : Array Value → State → Outcome → State → Prop := va_Qi (fun x (_ : Unit) => x = r) (fun _ t => zPost D A B n K I R t) A
def zQl (D : zD) (A : Nat → Prop) (r : Int64) (B n : Nat) (K : zK) (I : zI) (R : zR) : Array Value → State → Outcome → State → Prop := va_Ql (fun x (_ : Unit) => x = r) (fun _ t => zPost D A B n K I R t) A
def zQv (D : zD) (A : Nat → Prop) (B n : Nat) (K : zK) (I : zI) (R : zR) : Array Value → State → Outcome → State → Prop := va_Qv (fun (_ : Unit) => True) (fun _ t => zPost D A B n K I R t) A
def zQq (D : zD) (A : Nat → Prop) (r : Option Nat) (B n : Nat) (K : zK) (I : zI) (R : zR) : Array Value → State → Outcome → State → Prop := va_Qq (fun x (_ : Unit) => x = r.map (fun a => B + a)) (fun _ t => zPost D A B n K I R t) A
abbrev zM (l : Launch) (y : MethodName) (cc : ByteArray) (nL : Nat) (ret : Option FieldType) (rm : Room) (D : zD) (B n : Nat) (K : zK) (I : zI) (R : zR) (av : List Value) (Qc : Array Value → State → Outcome → State → Prop) : Prop :=
  Met l y [Cond.code y cc nL ret] rm (zPc D B n K I R av) Qc rm.cells rm.slots (zOwn B K (B + n))
/-- what the tables say of a method that is called -/
def zYV (y : MethodName) (cc : ByteArray) (nL : Nat) (ret : Option FieldType) (k : Nat) : Prop := Cond.code y cc nL ret ∈ lw_tbl ∧ Cond.initialized y.cls ∈ lw_tbl ∧ (y.cls ≠ "java/lang/invoke/MethodHandle" ∧ y.cls ≠ "java/lang/invoke/VarHandle" ∧ (parseMethodDescriptor y.desc).map (fun d => d.parameters.length) = some k) ∧ Cond.instanceMethod y ∈ lw_tbl ∧ Cond.selects y.cls y y ∈ lw_tbl
def zYS (y : MethodName) (cc : ByteArray) (nL : Nat) (ret : Option FieldType) (k : Nat) : Prop := Cond.code y cc nL ret ∈ lw_tbl ∧ Cond.initialized y.cls ∈ lw_tbl ∧ (y.cls ≠ "java/lang/invoke/MethodHandle" ∧ y.cls ≠ "java/lang/invoke/VarHandle" ∧ (parseMethodDescriptor y.desc).map (fun d => d.parameters.length) = some k) ∧ Cond.static y ∈ lw_tbl
def zYI (y : MethodName) (cc : ByteArray) (nL : Nat) (k : Nat) : Prop := Cond.code y cc nL none ∈ lw_tbl ∧ Cond.initialized y.cls ∈ lw_tbl ∧ (y.cls ≠ "java/lang/invoke/MethodHandle" ∧ y.cls ≠ "java/lang/invoke/VarHandle" ∧ (parseMethodDescriptor y.desc).map (fun d => d.parameters.length) = some k) ∧ y.name = "<init>" ∧ Cond.instanceMethod y ∈ lw_tbl
section ZC
variable {p : Program} {l : Launch} {e : Env} {R0 : Room} {s : State} {m : MethodId} {args : Array Value} {below : List Frame} {meth : Method} {c : Code} {H : Heap} {locs : List Loc} {cells slots : Nat} {Q : State → Prop}
variable {cc : ByteArray} {nL : Nat} {own : String} {pc : Nat} {ls : Array Slot} {rest : List Value} {A : Nat → Prop} {D : zD} {B n n' : Nat} {K K' : zK} {I I' : zI} {R R' : zR} {H0 : Heap}
theorem znew_world {kd : Nat × Nat} {H1 : Heap} (hW : zS A D B n K I R H0 H locs) (e2 : H1.size = H.size + 1) (e3 : ∀ q, q < H.size → H1[q]? = H[q]?)
    (hI : ∀ b, b ≠ n → I' b = I b) (hR : ∀ b, b ≠ n → R' b = R b) (hc : zc D B (zset K n kd) I' R' H1 n) : zS A D B (n + 1) (zset K n kd) I' R' H0 H1 locs := by
  obtain ⟨⟨hz, hn⟩, hS, hA, hA0⟩ := hW
  have hlt : ∀ b, (K b).1 ≠ 0 → b = n ∨ H1[B + b]? = H[B + b]? := fun b _ => by
    rcases Nat.lt_trichotomy b n with h | h | h
    · exact Or.inr (e3 _ (by omega))
    · exact Or.inl h
    · refine Or.inr ?_
      rw [Array.getElem?_eq_none (by omega), Array.getElem?_eq_none (by omega)]
  refine ⟨⟨fun b => ?_, by omega⟩, ⟨Nat.le_trans hS.1 (by omega), fun q h1 h2 => (e3 q (Nat.lt_of_lt_of_le h1 hS.1)).trans (hS.2.1 q h1 h2), hS.2.2⟩, fun b hb => ?_, hA0⟩
  · by_cases hb : b = n
    · subst hb; exact hc
    · refine (hz b).kept (fun hk => ?_) (hI b hb) (hR b hb) (zset_ne _ _ hb)
      rcases hlt b hk with h | h
      · exact absurd h hb
      · exact h
  · by_cases h : b = n
    · subst h
      exact hA0 _ (by rw [← hn]; exact hS.1)
    · rw [zset_ne _ _ h] at hb
      exact hA b hb
theorem ze_new (X : zX p s m c cc nL own D) (ci idx : Nat) (r : vw_C) (hc : vwCl[ci]? = some r) (hl : Cond.classLink own idx r.1 ∈ lw_tbl) (hin : Cond.instantiable r.1 r.2.2 ∈ lw_tbl) (hini : Cond.initialized r.1 ∈ lw_tbl) (hW : zS A D B n K I R H0 H locs) (h1 : cells + 1 ≤ R0.cells) (h2 : slots + r.2.2 ≤ R0.slots) (hdg : decode cc pc = .ok (.new idx, 3))
    (kk : ∀ H1 : Heap, zS A D B (n + 1) (zset K n (ci + 10, 0)) (zclr I n 0) (zclr R n none) H0 H1 locs → W p l e R0 s m args below meth c H1 locs (cells + 1) (slots + r.2.2) Q (F0 m (pc + 3) ls (.ref (B + n) :: rest))) : W p l e R0 s m args below meth c H locs cells slots Q (F0 m pc ls rest) := by
  obtain ⟨hx, hb, -, hown, hKN⟩ := X
  have hKn := hKN.2.1 ci _ hc
  have hn : H.size = B + n := hW.1.2
  refine W.newcK hx hb hown (hKN.use hl rfl) (hKN.use hin rfl) (hKN.use hini rfl) rfl hdg h1 h2 hKn.2.1 hn fun H1 kC hkC e1 z1 o1 => ?_
  refine kk H1 (znew_world hW (by omega) (fun q hq => o1 q (by omega)) (fun b hb => zclr_ne _ _ hb) (fun b hb => zclr_ne _ _ hb) ⟨fun t ht ek => ?_, fun t ht ek => ?_, fun ci' r' ek hr' => ?_⟩)
  · rw [zset_self] at ek; (simp at ek <;> omega)
  · rw [zset_self] at ek; (simp at ek <;> omega)
  · rw [zset_self] at ek
    have hci : ci' = ci := by (simp at ek <;> omega)
    subst hci
    cases hc.symm.trans hr'
    obtain ⟨ty0, hty, hdf⟩ := zty2 hc
    have hts : ∀ w ∈ u_ws r.1 r.2.1 r.2.2, w.before (#[] : Array Value) s = true := zlay hKN hc
    refine (u_born ty0 hts (fun w h => h) hKn hkC e1 hty).to fun k hk => ?_
    rw [hdf k hk]
    unfold zv
    cases zrk ci' k <;> simp [zclr, zrf, va_rf]
theorem ze_newI (X : zX p s m c cc nL own D) {N : Nat} {k : Int32} (hl : Cond.arrayClass .int ∈ lw_tbl) (hk : ¬ k < 0) (hN : k.toNatClampNeg = N) (hby : N * componentBytes .int ≤ 536870912) (hW : zS A D B n K I R H0 H locs) (h1 : cells + 1 ≤ R0.cells) (h2 : slots + N ≤ R0.slots) (hdg : decode cc pc = .ok (.newarray .int, 2))
    (kk : ∀ H1 : Heap, zS A D B (n + 1) (zset K n (1, N)) (zclr I n 0) R H0 H1 locs → W p l e R0 s m args below meth c H1 locs (cells + 1) (slots + N) Q (F0 m (pc + 2) ls (.ref (B + n) :: rest))) : W p l e R0 s m args below meth c H locs cells slots Q (F0 m pc ls (.int k :: rest)) := by
  obtain ⟨hx, hb, -, hown, hKN⟩ := X
  have hn : H.size = B + n := hW.1.2
  refine va_newaK (atype := .int) hx hb (hKN.use hl rfl) rfl hdg rfl hk hN hby h1 h2 hn fun H1 cA e1 z1 o1 _ hf => ?_
  have hcA : cA = D.2 1 := Option.some.inj (hf.symm.trans (hKN.2.2 0 _ rfl).2)
  subst hcA
  refine kk H1 (znew_world hW (by omega) (fun q hq => o1 q (by omega)) (fun b hb => zclr_ne _ _ hb) (fun b hb => rfl) ⟨fun t ht ek => ?_, fun t ht ek => ?_, fun ci' r' ek hr' => ?_⟩)
  · rw [zset_self] at ek ⊢
    have : t = 1 := by (simp at ek <;> omega)
    subst this
    rw [e1]
    simp [zclr]
    rfl
  · rw [zset_self] at ek; (simp at ek <;> omega)
  · rw [zset_self] at ek; (simp at ek <;> omega)
theorem ze_newZ (X : zX p s m c cc nL own D) {N : Nat} {k : Int32} (hl : Cond.arrayClass .boolean ∈ lw_tbl) (hk : ¬ k < 0) (hN : k.toNatClampNeg = N) (hby : N * componentBytes .boolean ≤ 536870912) (hW : zS A D B n K I R H0 H locs) (h1 : cells + 1 ≤ R0.cells) (h2 : slots + N ≤ R0.slots) (hdg : decode cc pc = .ok (.newarray .boolean, 2))
    (kk : ∀ H1 : Heap, zS A D B (n + 1) (zset K n (2, N)) (zclr I n 0) R H0 H1 locs → W p l e R0 s m args below meth c H1 locs (cells + 1) (slots + N) Q (F0 m (pc + 2) ls (.ref (B + n) :: rest))) : W p l e R0 s m args below meth c H locs cells slots Q (F0 m pc ls (.int k :: rest)) := by
  obtain ⟨hx, hb, -, hown, hKN⟩ := X
  have hn : H.size = B + n := hW.1.2
  refine va_newaK (atype := .boolean) hx hb (hKN.use hl rfl) rfl hdg rfl hk hN hby h1 h2 hn fun H1 cA e1 z1 o1 _ hf => ?_
  have hcA : cA = D.2 2 := Option.some.inj (hf.symm.trans (hKN.2.2 1 _ rfl).2)
  subst hcA
  refine kk H1 (znew_world hW (by omega) (fun q hq => o1 q (by omega)) (fun b hb => zclr_ne _ _ hb) (fun b hb => rfl) ⟨fun t ht ek => ?_, fun t ht ek => ?_, fun ci' r' ek hr' => ?_⟩)
  · rw [zset_self] at ek ⊢
    have : t = 2 := by (simp at ek <;> omega)
    subst this
    rw [e1]
    simp [zclr]
    rfl
  · rw [zset_self] at ek; (simp at ek <;> omega)
  · rw [zset_self] at ek; (simp at ek <;> omega)
theorem ze_newR (X : zX p s m c cc nL own D) (t idx : Nat) (C : String) (htC : (t = 3 ∧ C = RX4) ∨ (t = 4 ∧ C = RX5)) {N : Nat} {k : Int32} (hl : Cond.classLink own idx C ∈ lw_tbl) (hl2 : Cond.arrayOver (.object C) ∈ lw_tbl) (hk : ¬ k < 0) (hN : k.toNatClampNeg = N) (hby : N * 4 ≤ 536870912) (hW : zS A D B n K I R H0 H locs) (h1 : cells + 1 ≤ R0.cells) (h2 : slots + N ≤ R0.slots) (hdg : decode cc pc = .ok (.anewarray idx, 3))
    (kk : ∀ H1 : Heap, zS A D B (n + 1) (zset K n (t, N)) I (zclr R n none) H0 H1 locs → W p l e R0 s m args below meth c H1 locs (cells + 1) (slots + N) Q (F0 m (pc + 3) ls (.ref (B + n) :: rest))) : W p l e R0 s m args below meth c H locs cells slots Q (F0 m pc ls (.int k :: rest)) := by
  obtain ⟨hx, hb, -, hown, hKN⟩ := X
  have hn : H.size = B + n := hW.1.2
  subst hN
  refine W.anew hx hb hown (hKN.use hl rfl) (hKN.use hl2 rfl) rfl hdg rfl hk hby h1 h2 fun cA kA comp f1 f2 f3 f4 => ?_
  have hcA : cA = D.2 t := by
    rcases htC with ⟨rfl, rfl⟩ | ⟨rfl, rfl⟩
    · obtain ⟨_, _, -, -, -, g4⟩ := (hKN.2.2 2 _ rfl).2
      exact Option.some.inj (f1.symm.trans g4)
    · obtain ⟨_, _, -, -, -, g4⟩ := (hKN.2.2 3 _ rfl).2
      exact Option.some.inj (f1.symm.trans g4)
  subst hcA
  rw [hn]
  refine kk _ (znew_world hW (by simp) (fun q hq => by rw [Array.getElem?_push, if_neg (Nat.ne_of_lt hq)]) (fun b hb => rfl) (fun b hb => zclr_ne _ _ hb) ⟨fun t' ht ek => ?_, fun t' ht ek => ?_, fun ci' r' ek hr' => ?_⟩)
  · rw [zset_self] at ek; (simp at ek <;> omega)
  · rw [zset_self] at ek ⊢
    have : t' = t := by (simp at ek <;> omega)
    subst this
    rw [← hn, arrV_new]
    simp [zclr, zrf, va_rf]
  · rw [zset_self] at ek; (simp at ek <;> omega)
theorem zOwn_sub (hW : zS A D B n K I R H0 H locs) : ∀ q, zOwn B K (B + n) q → A q := by
  rintro q (⟨a, rfl, h⟩ | h)
  · exact hW.2.2.1 a h
  · exact hW.2.2.2 q (by have h1 := hW.2.1.1; have h2 := hW.1.2; omega)
theorem zcb (X : zX p s m c cc nL own D) {y : MethodName} {ccy : ByteArray} {ml : Nat} {ret : Option FieldType} {rm : Room} {k idx : Nat} (h1 : Cond.code y ccy ml ret ∈ lw_tbl) (h2 : Cond.initialized y.cls ∈ lw_tbl) (h3 : y.cls ≠ "java/lang/invoke/MethodHandle" ∧ y.cls ≠ "java/lang/invoke/VarHandle" ∧ (parseMethodDescriptor y.desc).map (fun d => d.parameters.length) = some k) (hl : Cond.methodLink own idx y ∈ lw_tbl) (hR : rm.frames + 1 ≤ R0.frames ∧ 8 + (ml + 11) + rm.locals ≤ R0.locals) : CallB R0 s args own idx y ccy ml ret [Cond.code y ccy ml ret] rm rm.cells rm.slots k := by
  obtain ⟨hx, hb, -, hown, hKN⟩ := X
  refine ⟨rfl, rfl, hR.1, hR.2, fun w hw => ?_, List.mem_cons_self, hKN.use h1 rfl, hKN.use h2 rfl, ⟨h3.1, h3.2.1⟩, fun sig h => ?_, hKN.use hl rfl⟩
  · rw [List.mem_singleton.mp hw]
    exact hKN.word h1 rfl
  · have h4 := h3.2.2
    rw [h] at h4
    exact (Option.some.inj h4).symm
theorem zcbN (X : zX p s m c cc nL own D) {y : MethodName} {ccy : ByteArray} {ml : Nat} {ret : Option FieldType} {rm : Room} {k idx : Nat} {host : String} (h1 : Cond.code y ccy ml ret ∈ lw_tbl) (h2 : Cond.initialized y.cls ∈ lw_tbl) (h3 : y.cls ≠ "java/lang/invoke/MethodHandle" ∧ y.cls ≠ "java/lang/invoke/VarHandle" ∧ (parseMethodDescriptor y.desc).map (fun d => d.parameters.length) = some k) (hl : Cond.methodLinkNest own idx y host ∈ lw_tbl) (hR : rm.frames + 1 ≤ R0.frames ∧ 8 + (ml + 11) + rm.locals ≤ R0.locals) : va_CN R0 s args own idx y host ccy ml ret [Cond.code y ccy ml ret] rm rm.cells rm.slots k := by
  obtain ⟨hx, hb, -, hown, hKN⟩ := X
  refine ⟨⟨rfl, rfl, hR.1, hR.2, fun w hw => ?_, List.mem_cons_self⟩, hKN.use h1 rfl, hKN.use h2 rfl, ⟨h3.1, h3.2.1⟩, fun sig h => ?_, hKN.use hl rfl⟩
  · rw [List.mem_singleton.mp hw]
    exact hKN.word h1 rfl
  · have h4 := h3.2.2
    rw [h] at h4
    exact (Option.some.inj h4).symm
theorem zPc_blind (av : List Value) : FrameBlind (zPc D B n K I R av) := fun a U g mk q => ⟨q.1, q.2.1.blind g mk a, q.2.2⟩
theorem zfix (X : zX p s m c cc nL own D) : CallFix p m c cc nL s args [] own := ⟨X.1, X.2.1, X.2.2.1, X.2.2.2.1, fun w h => by cases h⟩
theorem zPc_at (X : zX p s m c cc nL own D) (hW : zS A D B n K I R H0 H locs) (av : List Value) : ∀ U : State, U.heap = H → s.WarmedH U.vm → zPc D B n K I R av av.toArray U := fun U hU hw => ⟨rfl, X.2.2.2.2.warm hw, by rw [hU]; exact hW.1⟩
variable {y : MethodName} {ccy : ByteArray} {ml : Nat} {ret : Option FieldType} {rm : Room} {Qc : Array Value → State → Outcome → State → Prop} {As st0 : List Value} {k : Nat}
theorem ze_runV (X : zX p s m c cc nL own D) {a : Nat} (ci idx : Nat) {r : vw_C} (hM : zM l y ccy ml ret rm D B n K I R (.ref (B + a) :: As) Qc) (hy : zYV y ccy ml ret k) (hl : Cond.methodLink own idx y ∈ lw_tbl) (hW : zS A D B n K I R H0 H locs) (hKa : (K a).1 = ci + 10) (hc : vwCl[ci]? = some r) (hcls : r.1 = y.cls) (hR : rm.frames + 1 ≤ R0.frames ∧ 8 + (ml + 11) + rm.locals ≤ R0.locals)
    (hn : As.length = k) (hsize : ls.size = nL) (hstack : st0 = As.reverse ++ .ref (B + a) :: rest) (hcat : (rest.map fun v => v.category).sum ≤ 8) (hf : cells + rm.cells ≤ R0.cells ∧ slots + rm.slots ≤ R0.slots) (hdg : decode cc pc = .ok (.invokevirtual idx, 3)) :
    va_Run p l e R0 s m args below meth c H locs cells slots rm.cells rm.slots (F0 m pc ls st0) rest (Qc (Value.ref (B + a) :: As).toArray) (zOwn B K (B + n)) := by
  obtain ⟨cell, q1, q2, q3, -⟩ := zcell hW hKa hc
  refine va_runV (zfix X) hM ⟨zcb X hy.1 hy.2.1 hy.2.2.1 hl hR, X.2.2.2.2.use hy.2.2.2.1 rfl, X.2.2.2.2.use (hcls ▸ hy.2.2.2.2) rfl⟩ ⟨zPc_blind _, ⟨cell, q1, by rw [q3]; rfl, by rw [q2]; exact (X.2.2.2.2.2.1 ci _ hc).2.1⟩, zPc_at X hW _⟩ rfl hn hsize hstack (lv_room hcat) hdg hf
theorem ze_runS (X : zX p s m c cc nL own D) (idx : Nat) (hM : zM l y ccy ml ret rm D B n K I R As Qc) (hy : zYS y ccy ml ret k) (hl : Cond.methodLink own idx y ∈ lw_tbl) (hW : zS A D B n K I R H0 H locs) (hR : rm.frames + 1 ≤ R0.frames ∧ 8 + (ml + 11) + rm.locals ≤ R0.locals)
    (hn : As.length = k) (hsize : ls.size = nL) (hstack : st0 = As.reverse ++ rest) (hcat : (rest.map fun v => v.category).sum ≤ 8) (hf : cells + rm.cells ≤ R0.cells ∧ slots + rm.slots ≤ R0.slots) (hdg : decode cc pc = .ok (.invokestatic idx, 3)) :
    va_Run p l e R0 s m args below meth c H locs cells slots rm.cells rm.slots (F0 m pc ls st0) rest (Qc As.toArray) (zOwn B K (B + n)) :=
  va_runS (zfix X) hM ⟨zcb X hy.1 hy.2.1 hy.2.2.1 hl hR, X.2.2.2.2.use hy.2.2.2 rfl⟩ ⟨zPc_blind _, zPc_at X hW _⟩ rfl hn hsize hstack (lv_room hcat) hdg hf
theorem ze_runSN (X : zX p s m c cc nL own D) {host : String} (idx : Nat) (hM : zM l y ccy ml ret rm D B n K I R As Qc) (hy : zYS y ccy ml ret k) (hl : Cond.methodLinkNest own idx y host ∈ lw_tbl) (hW : zS A D B n K I R H0 H locs) (hR : rm.frames + 1 ≤ R0.frames ∧ 8 + (ml + 11) + rm.locals ≤ R0.locals)
    (hn : As.length = k) (hsize : ls.size = nL) (hstack : st0 = As.reverse ++ rest) (hcat : (rest.map fun v => v.category).sum ≤ 8) (hf : cells + rm.cells ≤ R0.cells ∧ slots + rm.slots ≤ R0.slots) (hdg : decode cc pc = .ok (.invokestatic idx, 3)) :
    va_Run p l e R0 s m args below meth c H locs cells slots rm.cells rm.slots (F0 m pc ls st0) rest (Qc As.toArray) (zOwn B K (B + n)) :=
  va_runSN (zfix X) hM ⟨zcbN X hy.1 hy.2.1 hy.2.2.1 hl hR, X.2.2.2.2.use hy.2.2.2 rfl, trivial⟩ ⟨zPc_blind _, zPc_at X hW _⟩ rfl hn hsize hstack (lv_room hcat) hdg hf
theorem ze_runI (X : zX p s m c cc nL own D) {b : Nat} (idx : Nat) (hM : zM l y ccy ml none rm D B n K I R (.ref (B + b) :: As) Qc) (hy : zYI y ccy ml k) (hl : Cond.methodLink own idx y ∈ lw_tbl) (hW : zS A D B n K I R H0 H locs) (hR : rm.frames + 1 ≤ R0.frames ∧ 8 + (ml + 11) + rm.locals ≤ R0.locals)
    (hn : As.length = k) (hsize : ls.size = nL) (hstack : st0 = As.reverse ++ .ref (B + b) :: rest) (hcat : (rest.map fun v => v.category).sum ≤ 8) (hf : cells + rm.cells ≤ R0.cells ∧ slots + rm.slots ≤ R0.slots) (hdg : decode cc pc = .ok (.invokespecial idx, 3)) :
    va_Run p l e R0 s m args below meth c H locs cells slots rm.cells rm.slots (F0 m pc ls st0) rest (Qc (Value.ref (B + b) :: As).toArray) (zOwn B K (B + n)) :=
  va_runI (zfix X) hM ⟨zcb X hy.1 hy.2.1 hy.2.2.1 hl hR, hy.2.2.2.1, X.2.2.2.2.use hy.2.2.2.2 rfl⟩ ⟨zPc_blind _, zPc_at X hW _⟩ rfl hn hsize hstack (lv_room hcat) hdg hf
theorem ze_runIN (X : zX p s m c cc nL own D) {b : Nat} {host : String} (idx : Nat) (hM : zM l y ccy ml none rm D B n K I R (.ref (B + b) :: As) Qc) (hy : zYI y ccy ml k) (hl : Cond.methodLinkNest own idx y host ∈ lw_tbl) (hW : zS A D B n K I R H0 H locs) (hR : rm.frames + 1 ≤ R0.frames ∧ 8 + (ml + 11) + rm.locals ≤ R0.locals)
    (hn : As.length = k) (hsize : ls.size = nL) (hstack : st0 = As.reverse ++ .ref (B + b) :: rest) (hcat : (rest.map fun v => v.category).sum ≤ 8) (hf : cells + rm.cells ≤ R0.cells ∧ slots + rm.slots ≤ R0.slots) (hdg : decode cc pc = .ok (.invokespecial idx, 3)) :
    va_Run p l e R0 s m args below meth c H locs cells slots rm.cells rm.slots (F0 m pc ls st0) rest (Qc (Value.ref (B + b) :: As).toArray) (zOwn B K (B + n)) :=
  va_runIN (zfix X) hM ⟨zcbN X hy.1 hy.2.1 hy.2.2.1 hl hR, hy.2.2.2.1, X.2.2.2.2.use hy.2.2.2.2 rfl⟩ ⟨zPc_blind _, zPc_at X hW _⟩ rfl hn hsize hstack (lv_room hcat) hdg hf
variable {mc ms : Nat} {av : Array Value}
theorem zafter (hW : zS A D B n K I R H0 H locs) {H1 : Heap} {locs1 : List Loc} {t : State} (ht : t.heap = H1) (hp : zPost D (zOwn B K (B + n)) B n' K' I' R' t) (hS : va_S A H0 H1 locs1) : zS A D B n' K' I' R' H0 H1 locs1 :=
  ⟨by rw [← ht]; exact hp.1, hS, fun a h => zOwn_sub hW _ (hp.2 a h), hW.2.2.2⟩
theorem ze_aftI {v : Int32} (hr : va_Run p l e R0 s m args below meth c H locs cells slots mc ms (F0 m pc ls st0) rest (zQi D (zOwn B K (B + n)) v B n' K' I' R' av) (zOwn B K (B + n))) (hW : zS A D B n K I R H0 H locs)
    (kk : ∀ (H1 : Heap) (locs1 : List Loc), zS A D B n' K' I' R' H0 H1 locs1 → W p l e R0 s m args below meth c H1 locs1 (cells + mc) (slots + ms) Q (F0 m (pc + 3) ls (.int v :: rest))) : W p l e R0 s m args below meth c H locs cells slots Q (F0 m pc ls st0) :=
  va_calli hr hW.2.1 (fun q _ h => zOwn_sub hW q h) (zOwn_sub hW) fun r u t H1 locs1 ht _ hpost hb _ _ hS => by
    subst hpost
    exact kk H1 locs1 (zafter hW ht hb hS)
theorem ze_aftL {v : Int64} (hr : va_Run p l e R0 s m args below meth c H locs cells slots mc ms (F0 m pc ls st0) rest (zQl D (zOwn B K (B + n)) v B n' K' I' R' av) (zOwn B K (B + n))) (hW : zS A D B n K I R H0 H locs)
    (kk : ∀ (H1 : Heap) (locs1 : List Loc), zS A D B n' K' I' R' H0 H1 locs1 → W p l e R0 s m args below meth c H1 locs1 (cells + mc) (slots + ms) Q (F0 m (pc + 3) ls (.long v :: rest))) : W p l e R0 s m args below meth c H locs cells slots Q (F0 m pc ls st0) :=
  va_calll hr hW.2.1 (fun q _ h => zOwn_sub hW q h) (zOwn_sub hW) fun r u t H1 locs1 ht _ hpost hb _ _ hS => by
    subst hpost
    exact kk H1 locs1 (zafter hW ht hb hS)
theorem ze_aftV (hr : va_Run p l e R0 s m args below meth c H locs cells slots mc ms (F0 m pc ls st0) rest (zQv D (zOwn B K (B + n)) B n' K' I' R' av) (zOwn B K (B + n))) (hW : zS A D B n K I R H0 H locs)
    (kk : ∀ (H1 : Heap) (locs1 : List Loc), zS A D B n' K' I' R' H0 H1 locs1 → W p l e R0 s m args below meth c H1 locs1 (cells + mc) (slots + ms) Q (F0 m (pc + 3) ls rest)) : W p l e R0 s m args below meth c H locs cells slots Q (F0 m pc ls st0) :=
  va_callv hr hW.2.1 (fun q _ h => zOwn_sub hW q h) (zOwn_sub hW) fun u t H1 locs1 ht _ hpost hb _ _ hS => kk H1 locs1 (zafter hW ht hb hS)
theorem ze_aftQ {v : Option Nat} (hr : va_Run p l e R0 s m args below meth c H locs cells slots mc ms (F0 m pc ls st0) rest (zQq D (zOwn B K (B + n)) v B n' K' I' R' av) (zOwn B K (B + n))) (hW : zS A D B n K I R H0 H locs)
    (kk : ∀ (H1 : Heap) (locs1 : List Loc), zS A D B n' K' I' R' H0 H1 locs1 → W p l e R0 s m args below meth c H1 locs1 (cells + mc) (slots + ms) Q (F0 m (pc + 3) ls (zrf B v :: rest))) : W p l e R0 s m args below meth c H locs cells slots Q (F0 m pc ls st0) :=
  va_callq hr hW.2.1 (fun q _ h => zOwn_sub hW q h) (zOwn_sub hW) fun r u t H1 locs1 ht _ hpost hb _ _ hS => by
    subst hpost
    exact kk H1 locs1 (zafter hW ht hb hS)
/-- entry -/
theorem ze_entry {vs : List Value} {lv0 : List (Nat × Value)} (hy : plainName y.cls = true) (hlen : (lg_sl vs).length ≤ ml) (hL : lv_args 0 vs = lv0)
    (body : ∀ p e s m below meth c, zX p s m c ccy ml y.cls D → meth.sig.returnType = ret → meth.locks = false → meth.name = y.name → zS (zOwn B K (B + n)) D B n K I R s.heap s.heap [] → ∀ ls, lv_has ls ml lv0 → W p l e rm s m vs.toArray below meth c s.heap [] 0 0 (MQ below Qc vs.toArray s rm.cells rm.slots (zOwn B K (B + n))) (F0 m 0 ls [])) : zM l y ccy ml ret rm D B n K I R vs Qc := by
  refine Met.ofW (cc := ccy) (maxL := ml) (ret := ret) hy rfl ?_
  intro p e s m args below meth c s₁ Bd hml hv
  obtain ⟨rfl, hKN, hU⟩ := hv
  rw [lg_entry_eq]
  refine body p e s m below meth c ⟨Bd.exec, Bd.bytes, hml, findClass_of_methodNamed Bd.named, hKN⟩ Bd.returns Bd.notSynchronized (name_of_methodNamed Bd.named Bd.method).1 ⟨hU, va_S.rf, fun a h => Or.inl ⟨a, rfl, h⟩, fun q h => Or.inr (by rw [← hU.2]; exact h)⟩ _ ?_
  subst hL
  exact lv_entry vs hlen
variable {n0 : Nat} {K0 : zK}
theorem ze_retI (X : zX p s m c cc nL own D) (hr : meth.sig.returnType = some .int) (hlk : meth.locks = false) {v : Int32} (hW : zS (zOwn B K0 (B + n0)) D B n K I R s.heap H locs) (h1 : cells ≤ mc) (h2 : slots ≤ ms) (hdg : decode cc pc = .ok (.ireturn, 1)) : W p l e R0 s m args below meth c H locs cells slots (MQ below (zQi D (zOwn B K0 (B + n0)) v B n K I R) args s mc ms (zOwn B K0 (B + n0))) (F0 m pc ls [.int v]) :=
  W.widen h1 h2 (W.iret X.1 X.2.1 hr (fun t ht _ => ⟨⟨v, (), rfl, rfl, by rw [ht]; exact hW.1, hW.2.2.1⟩, hW.2.1.F ht⟩) hW.2.1.2.2 hdg hlk)
theorem ze_retZ (X : zX p s m c cc nL own D) (hr : meth.sig.returnType = some .boolean) (hlk : meth.locks = false) {v : Int32} (hv : v = 0 ∨ v = 1) (hW : zS (zOwn B K0 (B + n0)) D B n K I R s.heap H locs) (h1 : cells ≤ mc) (h2 : slots ≤ ms) (hdg : decode cc pc = .ok (.ireturn, 1)) : W p l e R0 s m args below meth c H locs cells slots (MQ below (zQi D (zOwn B K0 (B + n0)) v B n K I R) args s mc ms (zOwn B K0 (B + n0))) (F0 m pc ls [.int v]) :=
  W.widen h1 h2 (W.zret X.1 X.2.1 hr (zfit_b hv).1 (fun t ht _ => ⟨⟨v, (), rfl, rfl, by rw [ht]; exact hW.1, hW.2.2.1⟩, hW.2.1.F ht⟩) hW.2.1.2.2 hdg hlk)
theorem ze_retL (X : zX p s m c cc nL own D) (hr : meth.sig.returnType = some .long) (hlk : meth.locks = false) {v : Int64} (hW : zS (zOwn B K0 (B + n0)) D B n K I R s.heap H locs) (h1 : cells ≤ mc) (h2 : slots ≤ ms) (hdg : decode cc pc = .ok (.lreturn, 1)) : W p l e R0 s m args below meth c H locs cells slots (MQ below (zQl D (zOwn B K0 (B + n0)) v B n K I R) args s mc ms (zOwn B K0 (B + n0))) (F0 m pc ls [.long v]) :=
  W.widen h1 h2 (W.lret X.1 X.2.1 hr (fun t ht _ => ⟨⟨v, (), rfl, rfl, by rw [ht]; exact hW.1, hW.2.2.1⟩, hW.2.1.F ht⟩) hW.2.1.2.2 hdg hlk)
theorem ze_retV (X : zX p s m c cc nL own D) (hr : meth.sig.returnType = none) (hlk : meth.locks = false) (hW : zS (zOwn B K0 (B + n0)) D B n K I R s.heap H locs) (h1 : cells ≤ mc) (h2 : slots ≤ ms) (hdg : decode cc pc = .ok (.return_, 1)) : W p l e R0 s m args below meth c H locs cells slots (MQ below (zQv D (zOwn B K0 (B + n0)) B n K I R) args s mc ms (zOwn B K0 (B + n0))) (F0 m pc ls []) :=
  W.widen h1 h2 (W.vret X.1 X.2.1 hr (fun t ht _ => ⟨⟨(), rfl, trivial, by rw [ht]; exact hW.1, hW.2.2.1⟩, hW.2.1.F ht⟩) hW.2.1.2.2 hdg hlk)
theorem ze_retQ (X : zX p s m c cc nL own D) {C : String} (hr : meth.sig.returnType = some (.object C)) (hlk : meth.locks = false) {v : Option Nat} (hW : zS (zOwn B K0 (B + n0)) D B n K I R s.heap H locs) (h1 : cells ≤ mc) (h2 : slots ≤ ms) (hdg : decode cc pc = .ok (.areturn, 1)) : W p l e R0 s m args below meth c H locs cells slots (MQ below (zQq D (zOwn B K0 (B + n0)) v B n K I R) args s mc ms (zOwn B K0 (B + n0))) (F0 m pc ls [zrf B v]) := by
  refine W.widen h1 h2 (W.aret X.1 X.2.1 hr (Or.inl ⟨_, rfl⟩) (by cases v <;> simp [zrf, va_rf]) (fun t ht _ => ⟨⟨v.map (fun a => B + a), (), rfl, rfl, by rw [ht]; exact hW.1, hW.2.2.1⟩, hW.2.1.F ht⟩) hW.2.1.2.2 hdg hlk)
/-- field reads and stores, by what they hold -/
theorem zv_I {ci a k : Nat} (h : zrk ci k = false) : zv B I R ci a k = .int (I a k) := by simp [zv, h]
theorem zv_R {ci a k : Nat} (h : zrk ci k = true) : zv B I R ci a k = zrf B (R a k) := by simp [zv, h]
theorem ze_getI (X : zX p s m c cc nL own D) {a : Nat} (ci k idx : Nat) (r : vw_C) (hrk : zrk ci k = false) (hW : zS A D B n K I R H0 H locs) (hKa : (K a).1 = ci + 10) (hc : vwCl[ci]? = some r) (hk : k < r.2.2) (hl : Cond.fieldLink own idx (r.2.1 k).1 (r.2.1 k).2.1 (r.2.1 k).2.2.1 ∈ lw_tbl) (hdg : decode cc pc = .ok (.getfield idx, 3))
    (kk : W p l e R0 s m args below meth c H locs cells slots Q (F0 m (pc + 3) ls (.int (I a k) :: rest))) : W p l e R0 s m args below meth c H locs cells slots Q (F0 m pc ls (.ref (B + a) :: rest)) := ze_getV X ci k idx r hW hKa hc hk hl hdg (by rw [zv_I hrk]; exact kk)
theorem ze_getR (X : zX p s m c cc nL own D) {a : Nat} (ci k idx : Nat) (r : vw_C) (hrk : zrk ci k = true) (hW : zS A D B n K I R H0 H locs) (hKa : (K a).1 = ci + 10) (hc : vwCl[ci]? = some r) (hk : k < r.2.2) (hl : Cond.fieldLink own idx (r.2.1 k).1 (r.2.1 k).2.1 (r.2.1 k).2.2.1 ∈ lw_tbl) (hdg : decode cc pc = .ok (.getfield idx, 3))
    (kk : W p l e R0 s m args below meth c H locs cells slots Q (F0 m (pc + 3) ls (zrf B (R a k) :: rest))) : W p l e R0 s m args below meth c H locs cells slots Q (F0 m pc ls (.ref (B + a) :: rest)) := ze_getV X ci k idx r hW hKa hc hk hl hdg (by rw [zv_R hrk]; exact kk)
theorem ze_getIN (X : zX p s m c cc nL own D) {a : Nat} {host : String} (ci k idx : Nat) (r : vw_C) (hrk : zrk ci k = false) (hW : zS A D B n K I R H0 H locs) (hKa : (K a).1 = ci + 10) (hc : vwCl[ci]? = some r) (hk : k < r.2.2) (hl : Cond.fieldLinkNest own idx (r.2.1 k).1 (r.2.1 k).2.1 (r.2.1 k).2.2.1 host ∈ lw_tbl) (hdg : decode cc pc = .ok (.getfield idx, 3))
    (kk : W p l e R0 s m args below meth c H locs cells slots Q (F0 m (pc + 3) ls (.int (I a k) :: rest))) : W p l e R0 s m args below meth c H locs cells slots Q (F0 m pc ls (.ref (B + a) :: rest)) := ze_getVN X ci k idx r hW hKa hc hk hl hdg (by rw [zv_I hrk]; exact kk)
theorem ze_getRN (X : zX p s m c cc nL own D) {a : Nat} {host : String} (ci k idx : Nat) (r : vw_C) (hrk : zrk ci k = true) (hW : zS A D B n K I R H0 H locs) (hKa : (K a).1 = ci + 10) (hc : vwCl[ci]? = some r) (hk : k < r.2.2) (hl : Cond.fieldLinkNest own idx (r.2.1 k).1 (r.2.1 k).2.1 (r.2.1 k).2.2.1 host ∈ lw_tbl) (hdg : decode cc pc = .ok (.getfield idx, 3))
    (kk : W p l e R0 s m args below meth c H locs cells slots Q (F0 m (pc + 3) ls (zrf B (R a k) :: rest))) : W p l e R0 s m args below meth c H locs cells slots Q (F0 m pc ls (.ref (B + a) :: rest)) := ze_getVN X ci k idx r hW hKa hc hk hl hdg (by rw [zv_R hrk]; exact kk)
theorem ze_putI (X : zX p s m c cc nL own D) {a : Nat} (ci k idx : Nat) (r : vw_C) (hrk : zrk ci k = false) {v : Int32} {β : Type} {G : zI → Option β} {res : β} (hf : zbd (some (zup I a k v)) G = some res) (hW : zS A D B n K I R H0 H locs) (hKa : (K a).1 = ci + 10) (hc : vwCl[ci]? = some r) (hk : k < r.2.2) (hl : Cond.fieldLink own idx (r.2.1 k).1 (r.2.1 k).2.1 (r.2.1 k).2.2.1 ∈ lw_tbl) (hfin : (r.2.1 k).2.2.2 = false) (hd : parseFieldDescriptor (r.2.1 k).2.2.1 = some .int) (hdg : decode cc pc = .ok (.putfield idx, 3))
    (kk : ∀ (I1 : zI) (H1 : Heap) (locs1 : List Loc), G I1 = some res → zS A D B n K I1 R H0 H1 locs1 → W p l e R0 s m args below meth c H1 locs1 cells slots Q (F0 m (pc + 3) ls rest)) : W p l e R0 s m args below meth c H locs cells slots Q (F0 m pc ls (.int v :: .ref (B + a) :: rest)) :=
  ze_putV X ci k idx r hW hKa hc hk hl hfin hd (zfit_i v).1 (zfit_i v).2 (fun b hb => zup_ne _ _ _ hb) (fun b hb => rfl) (zput_zv_I hrk v) hdg fun H1 locs1 h => kk _ H1 locs1 hf h
theorem ze_putZ (X : zX p s m c cc nL own D) {a : Nat} (ci k idx : Nat) (r : vw_C) (hrk : zrk ci k = false) {v : Int32} (hv : v = 0 ∨ v = 1) {β : Type} {G : zI → Option β} {res : β} (hf : zbd (some (zup I a k v)) G = some res) (hW : zS A D B n K I R H0 H locs) (hKa : (K a).1 = ci + 10) (hc : vwCl[ci]? = some r) (hk : k < r.2.2) (hl : Cond.fieldLink own idx (r.2.1 k).1 (r.2.1 k).2.1 (r.2.1 k).2.2.1 ∈ lw_tbl) (hfin : (r.2.1 k).2.2.2 = false) (hd : parseFieldDescriptor (r.2.1 k).2.2.1 = some .boolean) (hdg : decode cc pc = .ok (.putfield idx, 3))
    (kk : ∀ (I1 : zI) (H1 : Heap) (locs1 : List Loc), G I1 = some res → zS A D B n K I1 R H0 H1 locs1 → W p l e R0 s m args below meth c H1 locs1 cells slots Q (F0 m (pc + 3) ls rest)) : W p l e R0 s m args below meth c H locs cells slots Q (F0 m pc ls (.int v :: .ref (B + a) :: rest)) :=
  ze_putV X ci k idx r hW hKa hc hk hl hfin hd (zfit_b hv).1 (zfit_b hv).2 (fun b hb => zup_ne _ _ _ hb) (fun b hb => rfl) (zput_zv_I hrk v) hdg fun H1 locs1 h => kk _ H1 locs1 hf h
theorem zfit_ty (ty : FieldType) (h : (∃ C, ty = .object C) ∨ ∃ t, ty = .array t) (B : Nat) (x : Option Nat) : narrow ty (zrf B x) = zrf B x ∧ fits ty (zrf B x) = true := by
  rcases h with ⟨C, rfl⟩ | ⟨t, rfl⟩
  · exact zfit_rf B x C
  · exact zfit_ra B x t
theorem ze_putR (X : zX p s m c cc nL own D) {a : Nat} (ci k idx : Nat) (r : vw_C) (hrk : zrk ci k = true) {x : Option Nat} {ty : FieldType} (hty : (∃ C, ty = .object C) ∨ ∃ t, ty = .array t) {β : Type} {G : zR → Option β} {res : β} (hf : zbd (some (zup R a k x)) G = some res) (hW : zS A D B n K I R H0 H locs) (hKa : (K a).1 = ci + 10) (hc : vwCl[ci]? = some r) (hk : k < r.2.2) (hl : Cond.fieldLink own idx (r.2.1 k).1 (r.2.1 k).2.1 (r.2.1 k).2.2.1 ∈ lw_tbl) (hfin : (r.2.1 k).2.2.2 = false) (hd : parseFieldDescriptor (r.2.1 k).2.2.1 = some ty) (hdg : decode cc pc = .ok (.putfield idx, 3))
    (kk : ∀ (R1 : zR) (H1 : Heap) (locs1 : List Loc), G R1 = some res → zS A D B n K I R1 H0 H1 locs1 → W p l e R0 s m args below meth c H1 locs1 cells slots Q (F0 m (pc + 3) ls rest)) : W p l e R0 s m args below meth c H locs cells slots Q (F0 m pc ls (zrf B x :: .ref (B + a) :: rest)) :=
  ze_putV X ci k idx r hW hKa hc hk hl hfin hd (zfit_ty ty hty B x).1 (zfit_ty ty hty B x).2 (fun b hb => rfl) (fun b hb => zup_ne _ _ _ hb) (zput_zv_R hrk x) hdg fun H1 locs1 h => kk _ H1 locs1 hf h
theorem ze_putIN (X : zX p s m c cc nL own D) {a : Nat} {host : String} (ci k idx : Nat) (r : vw_C) (hrk : zrk ci k = false) {v : Int32} {β : Type} {G : zI → Option β} {res : β} (hf : zbd (some (zup I a k v)) G = some res) (hW : zS A D B n K I R H0 H locs) (hKa : (K a).1 = ci + 10) (hc : vwCl[ci]? = some r) (hk : k < r.2.2) (hl : Cond.fieldLinkNest own idx (r.2.1 k).1 (r.2.1 k).2.1 (r.2.1 k).2.2.1 host ∈ lw_tbl) (hfin : (r.2.1 k).2.2.2 = false) (hd : parseFieldDescriptor (r.2.1 k).2.2.1 = some .int) (hdg : decode cc pc = .ok (.putfield idx, 3))
    (kk : ∀ (I1 : zI) (H1 : Heap) (locs1 : List Loc), G I1 = some res → zS A D B n K I1 R H0 H1 locs1 → W p l e R0 s m args below meth c H1 locs1 cells slots Q (F0 m (pc + 3) ls rest)) : W p l e R0 s m args below meth c H locs cells slots Q (F0 m pc ls (.int v :: .ref (B + a) :: rest)) :=
  ze_putVN X ci k idx r hW hKa hc hk hl hfin hd (zfit_i v).1 (zfit_i v).2 (fun b hb => zup_ne _ _ _ hb) (fun b hb => rfl) (zput_zv_I hrk v) hdg fun H1 locs1 h => kk _ H1 locs1 hf h
theorem ze_putRF (X : zX p s m c cc nL own D) {a : Nat} (hin2 : meth.name = "<init>") (ci k idx : Nat) (r : vw_C) (hrk : zrk ci k = true) {x : Option Nat} {ty : FieldType} (hty : (∃ C, ty = .object C) ∨ ∃ t, ty = .array t) {β : Type} {G : zR → Option β} {res : β} (hf : zbd (some (zup R a k x)) G = some res) (hW : zS A D B n K I R H0 H locs) (hKa : (K a).1 = ci + 10) (hc : vwCl[ci]? = some r) (hk : k < r.2.2) (hl : Cond.fieldLink own idx (r.2.1 k).1 (r.2.1 k).2.1 (r.2.1 k).2.2.1 ∈ lw_tbl) (hfin : (r.2.1 k).2.2.2 = true) (hdecl : (r.2.1 k).1 = own) (hd : parseFieldDescriptor (r.2.1 k).2.2.1 = some ty) (hdg : decode cc pc = .ok (.putfield idx, 3))
    (kk : ∀ (R1 : zR) (H1 : Heap) (locs1 : List Loc), G R1 = some res → zS A D B n K I R1 H0 H1 locs1 → W p l e R0 s m args below meth c H1 locs1 cells slots Q (F0 m (pc + 3) ls rest)) : W p l e R0 s m args below meth c H locs cells slots Q (F0 m pc ls (zrf B x :: .ref (B + a) :: rest)) :=
  ze_putVF X hin2 ci k idx r hW hKa hc hk hl hfin hdecl hd (zfit_ty ty hty B x).1 (zfit_ty ty hty B x).2 (fun b hb => rfl) (fun b hb => zup_ne _ _ _ hb) (zput_zv_R hrk x) hdg fun H1 locs1 h => kk _ H1 locs1 hf h
/-- locals that hold a reference or null -/
theorem ze_aload_n (hx : p.tables.exec = Jvm.exec) (hb : c.code = cc) {k : Fin 4} {i : Nat} {x : Option Nat} (hdg : decode cc pc = .ok (.aload_n k, 1)) (hi : (k : Nat) = i) (hl : ls[i]? = some (.val (zrf B x)))
    (kk : W p l e R0 s m args below meth c H locs cells slots Q (F0 m (pc + 1) ls (zrf B x :: rest))) : W p l e R0 s m args below meth c H locs cells slots Q (F0 m pc ls rest) := by
  cases x with
  | none => exact lv_aload_nN hx hb hdg hi hl kk
  | some a => exact lv_aload_n hx hb hdg hi hl kk
theorem ze_aload (hx : p.tables.exec = Jvm.exec) (hb : c.code = cc) {i : Nat} {x : Option Nat} (hdg : decode cc pc = .ok (.aload i, 2)) (hl : ls[i]? = some (.val (zrf B x)))
    (kk : W p l e R0 s m args below meth c H locs cells slots Q (F0 m (pc + 2) ls (zrf B x :: rest))) : W p l e R0 s m args below meth c H locs cells slots Q (F0 m pc ls rest) := by
  cases x with
  | none => exact lv_aloadN hx hb hdg hl kk
  | some a => exact lv_aload hx hb hdg hl kk
theorem ze_astore_n (hx : p.tables.exec = Jvm.exec) (hb : c.code = cc) {k : Fin 4} {i nL : Nat} {x : Option Nat} {lv lv' : List (Nat × Value)} (hdg : decode cc pc = .ok (.astore_n k, 1)) (hi : (k : Nat) = i) (h : lv_has ls nL lv) (hn : i < nL) (hl : (i, zrf B x) :: lv.filter (fun q => !(q.1 == i) && !(q.1 + 1 == i && q.2.category == 2)) = lv')
    (kk : ∀ ls' : Array Slot, lv_has ls' nL lv' → W p l e R0 s m args below meth c H locs cells slots Q (F0 m (pc + 1) ls' rest)) : W p l e R0 s m args below meth c H locs cells slots Q (F0 m pc ls (zrf B x :: rest)) := by
  cases x with
  | none => exact lv_astore_nN hx hb hdg hi h hn hl kk
  | some a => exact lv_astore_n hx hb hdg hi h hn hl kk
theorem ze_astore (hx : p.tables.exec = Jvm.exec) (hb : c.code = cc) {i nL : Nat} {x : Option Nat} {lv lv' : List (Nat × Value)} (hdg : decode cc pc = .ok (.astore i, 2)) (h : lv_has ls nL lv) (hn : i < nL) (hl : (i, zrf B x) :: lv.filter (fun q => !(q.1 == i) && !(q.1 + 1 == i && q.2.category == 2)) = lv')
    (kk : ∀ ls' : Array Slot, lv_has ls' nL lv' → W p l e R0 s m args below meth c H locs cells slots Q (F0 m (pc + 2) ls' rest)) : W p l e R0 s m args below meth c H locs cells slots Q (F0 m pc ls (zrf B x :: rest)) := by
  cases x with
  | none => exact lv_astoreN hx hb hdg h hn hl kk
  | some a => exact lv_astore hx hb hdg h hn hl kk
theorem ze_ifnull (hx : p.tables.exec = Jvm.exec) (hb : c.code = cc) {x : Option Nat} {off : Int} {tgt : Nat} (hdg : decode cc pc = .ok (.ifnull off, 3)) (ht : (pc : Int) + off = (tgt : Int))
    (kt : x = none → W p l e R0 s m args below meth c H locs cells slots Q (F0 m tgt ls rest)) (kf : ∀ a, x = some a → W p l e R0 s m args below meth c H locs cells slots Q (F0 m (pc + 3) ls rest)) : W p l e R0 s m args below meth c H locs cells slots Q (F0 m pc ls (zrf B x :: rest)) := by
  cases x with
  | none => exact lv_ifnullN hx hb hdg ht (kt rfl)
  | some a => exact lv_ifnull hx hb hdg (kf a rfl)
theorem ze_ifnonnull (hx : p.tables.exec = Jvm.exec) (hb : c.code = cc) {x : Option Nat} {off : Int} {tgt : Nat} (hdg : decode cc pc = .ok (.ifnonnull off, 3)) (ht : (pc : Int) + off = (tgt : Int))
    (kt : ∀ a, x = some a → W p l e R0 s m args below meth c H locs cells slots Q (F0 m tgt ls rest)) (kf : x = none → W p l e R0 s m args below meth c H locs cells slots Q (F0 m (pc + 3) ls rest)) : W p l e R0 s m args below meth c H locs cells slots Q (F0 m pc ls (zrf B x :: rest)) := by
  cases x with
  | none => exact lv_ifnonnullN hx hb hdg (kf rfl)
  | some a => exact lv_ifnonnull hx hb hdg ht (kt a rfl)
theorem ze_iinc (hx : p.tables.exec = Jvm.exec) (hb : c.code = cc) {i nL k : Nat} {n : Int} {x d : Int32} {lv lv' : List (Nat × Value)} (hdg : decode cc pc = .ok (.iinc i n, 3)) (h : lv_has ls nL lv) (hk : lv[k]? = some (i, .int x)) (hd : Int32.ofInt n = d) (hn : i < nL) (hl : (i, Value.int (x + d)) :: lv.filter (fun q => !(q.1 == i) && !(q.1 + 1 == i && q.2.category == 2)) = lv')
    (kk : ∀ ls' : Array Slot, lv_has ls' nL lv' → W p l e R0 s m args below meth c H locs cells slots Q (F0 m (pc + 3) ls' rest)) : W p l e R0 s m args below meth c H locs cells slots Q (F0 m pc ls rest) :=
  lv_iinc hx hb hdg h hk (by rw [hd]) hn hl kk
end ZC
/-! the same rows, with the step of the program's picture taken along -/
def zcs {β : Type} (o : Option Nat) (a : Option β) (g : Nat → Option β) : Option β := match o with
  | none => a
  | some x => g x
theorem zcs_none {β : Type} {o : Option Nat} {a : Option β} {g : Nat → Option β} {r : Option β} (h : o = none) (hf : zcs o a g = r) : a = r := by subst h; exact hf
theorem zcs_some {β : Type} {o : Option Nat} {a : Option β} {g : Nat → Option β} {r : Option β} {x : Nat} (h : o = some x) (hf : zcs o a g = r) : g x = r := by subst h; exact hf
section ZH
variable {p : Program} {l : Launch} {e : Env} {R0 : Room} {s : State} {m : MethodId} {args : Array Value} {below : List Frame} {meth : Method} {c : Code} {H : Heap} {locs : List Loc} {cells slots : Nat} {Q : State → Prop}
variable {cc : ByteArray} {nL : Nat} {own : String} {pc : Nat} {ls : Array Slot} {rest st0 : List Value} {A : Nat → Prop} {D : zD} {B n n' : Nat} {K K' : zK} {I I' : zI} {R R' : zR} {H0 : Heap} {β : Type} {res : β} {av : Array Value}
theorem ze_nm {x : Int32} {G : Int32 → Option β} (hf : zbd (some x) G = some res) (kk : ∀ y, G y = some res → W p l e R0 s m args below meth c H locs cells slots Q (F0 m pc ls (.int y :: rest))) : W p l e R0 s m args below meth c H locs cells slots Q (F0 m pc ls (.int x :: rest)) := kk x hf
theorem ze_nml {x : Int64} {G : Int64 → Option β} (hf : zbd (some x) G = some res) (kk : ∀ y, G y = some res → W p l e R0 s m args below meth c H locs cells slots Q (F0 m pc ls (.long y :: rest))) : W p l e R0 s m args below meth c H locs cells slots Q (F0 m pc ls (.long x :: rest)) := kk x hf
theorem ze_gtR (X : zX p s m c cc nL own D) {a : Nat} (ci k idx : Nat) (r : vw_C) (hrk : zrk ci k = true) {G : Option Nat → Option β} (hf : zbd (some (R a k)) G = some res) (hW : zS A D B n K I R H0 H locs) (hKa : (K a).1 = ci + 10) (hc : vwCl[ci]? = some r) (hk : k < r.2.2) (hl : Cond.fieldLink own idx (r.2.1 k).1 (r.2.1 k).2.1 (r.2.1 k).2.2.1 ∈ lw_tbl) (hdg : decode cc pc = .ok (.getfield idx, 3))
    (kk : ∀ o, G o = some res → W p l e R0 s m args below meth c H locs cells slots Q (F0 m (pc + 3) ls (zrf B o :: rest))) : W p l e R0 s m args below meth c H locs cells slots Q (F0 m pc ls (.ref (B + a) :: rest)) := ze_getR X ci k idx r hrk hW hKa hc hk hl hdg (kk _ hf)
theorem ze_gtRN (X : zX p s m c cc nL own D) {a : Nat} {host : String} (ci k idx : Nat) (r : vw_C) (hrk : zrk ci k = true) {G : Option Nat → Option β} (hf : zbd (some (R a k)) G = some res) (hW : zS A D B n K I R H0 H locs) (hKa : (K a).1 = ci + 10) (hc : vwCl[ci]? = some r) (hk : k < r.2.2) (hl : Cond.fieldLinkNest own idx (r.2.1 k).1 (r.2.1 k).2.1 (r.2.1 k).2.2.1 host ∈ lw_tbl) (hdg : decode cc pc = .ok (.getfield idx, 3))
    (kk : ∀ o, G o = some res → W p l e R0 s m args below meth c H locs cells slots Q (F0 m (pc + 3) ls (zrf B o :: rest))) : W p l e R0 s m args below meth c H locs cells slots Q (F0 m pc ls (.ref (B + a) :: rest)) := ze_getRN X ci k idx r hrk hW hKa hc hk hl hdg (kk _ hf)
theorem ze_nw (X : zX p s m c cc nL own D) (ci idx : Nat) (r : vw_C) {G : Nat → zK → zI → zR → Option β} (hf : zbd4 (some (n + 1, zset K n (ci + 10, 0), zclr I n 0, zclr R n none)) G = some res) (hc : vwCl[ci]? = some r) (hl : Cond.classLink own idx r.1 ∈ lw_tbl) (hin : Cond.instantiable r.1 r.2.2 ∈ lw_tbl) (hini : Cond.initialized r.1 ∈ lw_tbl) (hW : zS A D B n K I R H0 H locs) (h1 : cells + 1 ≤ R0.cells) (h2 : slots + r.2.2 ≤ R0.slots) (hdg : decode cc pc = .ok (.new idx, 3))
    (kk : ∀ (n1 : Nat) (K1 : zK) (I1 : zI) (R1 : zR) (H1 : Heap), G n1 K1 I1 R1 = some res → zS A D B n1 K1 I1 R1 H0 H1 locs → W p l e R0 s m args below meth c H1 locs (cells + 1) (slots + r.2.2) Q (F0 m (pc + 3) ls (.ref (B + n) :: rest))) : W p l e R0 s m args below meth c H locs cells slots Q (F0 m pc ls rest) :=
  ze_new X ci idx r hc hl hin hini hW h1 h2 hdg fun H1 h => kk _ _ _ _ H1 hf h
theorem ze_nwI (X : zX p s m c cc nL own D) {N : Nat} {k : Int32} {G : Nat → zK → zI → Option β} (hf : zbd3 (some (n + 1, zset K n (1, N), zclr I n 0)) G = some res) (hl : Cond.arrayClass .int ∈ lw_tbl) (hk : ¬ k < 0) (hN : k.toNatClampNeg = N) (hby : N * componentBytes .int ≤ 536870912) (hW : zS A D B n K I R H0 H locs) (h1 : cells + 1 ≤ R0.cells) (h2 : slots + N ≤ R0.slots) (hdg : decode cc pc = .ok (.newarray .int, 2))
    (kk : ∀ (n1 : Nat) (K1 : zK) (I1 : zI) (H1 : Heap), G n1 K1 I1 = some res → zS A D B n1 K1 I1 R H0 H1 locs → W p l e R0 s m args below meth c H1 locs (cells + 1) (slots + N) Q (F0 m (pc + 2) ls (.ref (B + n) :: rest))) : W p l e R0 s m args below meth c H locs cells slots Q (F0 m pc ls (.int k :: rest)) :=
  ze_newI X hl hk hN hby hW h1 h2 hdg fun H1 h => kk _ _ _ H1 hf h
theorem ze_nwZ (X : zX p s m c cc nL own D) {N : Nat} {k : Int32} {G : Nat → zK → zI → Option β} (hf : zbd3 (some (n + 1, zset K n (2, N), zclr I n 0)) G = some res) (hl : Cond.arrayClass .boolean ∈ lw_tbl) (hk : ¬ k < 0) (hN : k.toNatClampNeg = N) (hby : N * componentBytes .boolean ≤ 536870912) (hW : zS A D B n K I R H0 H locs) (h1 : cells + 1 ≤ R0.cells) (h2 : slots + N ≤ R0.slots) (hdg : decode cc pc = .ok (.newarray .boolean, 2))
    (kk : ∀ (n1 : Nat) (K1 : zK) (I1 : zI) (H1 : Heap), G n1 K1 I1 = some res → zS A D B n1 K1 I1 R H0 H1 locs → W p l e R0 s m args below meth c H1 locs (cells + 1) (slots + N) Q (F0 m (pc + 2) ls (.ref (B + n) :: rest))) : W p l e R0 s m args below meth c H locs cells slots Q (F0 m pc ls (.int k :: rest)) :=
  ze_newZ X hl hk hN hby hW h1 h2 hdg fun H1 h => kk _ _ _ H1 hf h
theorem ze_nwR (X : zX p s m c cc nL own D) (t idx : Nat) (C : String) (htC : (t = 3 ∧ C = RX4) ∨ (t = 4 ∧ C = RX5)) {N : Nat} {k : Int32} {G : Nat → zK → zR → Option β} (hf : zbd3 (some (n + 1, zset K n (t, N), zclr R n none)) G = some res) (hl : Cond.classLink own idx C ∈ lw_tbl) (hl2 : Cond.arrayOver (.object C) ∈ lw_tbl) (hk : ¬ k < 0) (hN : k.toNatClampNeg = N) (hby : N * 4 ≤ 536870912) (hW : zS A D B n K I R H0 H locs) (h1 : cells + 1 ≤ R0.cells) (h2 : slots + N ≤ R0.slots) (hdg : decode cc pc = .ok (.anewarray idx, 3))
    (kk : ∀ (n1 : Nat) (K1 : zK) (R1 : zR) (H1 : Heap), G n1 K1 R1 = some res → zS A D B n1 K1 I R1 H0 H1 locs → W p l e R0 s m args below meth c H1 locs (cells + 1) (slots + N) Q (F0 m (pc + 3) ls (.ref (B + n) :: rest))) : W p l e R0 s m args below meth c H locs cells slots Q (F0 m pc ls (.int k :: rest)) :=
  ze_newR X t idx C htC hl hl2 hk hN hby hW h1 h2 hdg fun H1 h => kk _ _ _ H1 hf h
theorem ze_aftI0 {v : Int32} (hr : va_Run p l e R0 s m args below meth c H locs cells slots 0 0 (F0 m pc ls st0) rest (zQi D (zOwn B K (B + n)) v B n' K' I' R' av) (zOwn B K (B + n))) (hW : zS A D B n K I R H0 H locs)
    (kk : ∀ (H1 : Heap) (locs1 : List Loc), zS A D B n' K' I' R' H0 H1 locs1 → W p l e R0 s m args below meth c H1 locs1 cells slots Q (F0 m (pc + 3) ls (.int v :: rest))) : W p l e R0 s m args below meth c H locs cells slots Q (F0 m pc ls st0) := ze_aftI hr hW kk
theorem ze_aftL0 {v : Int64} (hr : va_Run p l e R0 s m args below meth c H locs cells slots 0 0 (F0 m pc ls st0) rest (zQl D (zOwn B K (B + n)) v B n' K' I' R' av) (zOwn B K (B + n))) (hW : zS A D B n K I R H0 H locs)
    (kk : ∀ (H1 : Heap) (locs1 : List Loc), zS A D B n' K' I' R' H0 H1 locs1 → W p l e R0 s m args below meth c H1 locs1 cells slots Q (F0 m (pc + 3) ls (.long v :: rest))) : W p l e R0 s m args below meth c H locs cells slots Q (F0 m pc ls st0) := ze_aftL hr hW kk
theorem ze_aftV0 (hr : va_Run p l e R0 s m args below meth c H locs cells slots 0 0 (F0 m pc ls st0) rest (zQv D (zOwn B K (B + n)) B n' K' I' R' av) (zOwn B K (B + n))) (hW : zS A D B n K I R H0 H locs)
    (kk : ∀ (H1 : Heap) (locs1 : List Loc), zS A D B n' K' I' R' H0 H1 locs1 → W p l e R0 s m args below meth c H1 locs1 cells slots Q (F0 m (pc + 3) ls rest)) : W p l e R0 s m args below meth c H locs cells slots Q (F0 m pc ls st0) := ze_aftV hr hW kk
theorem ze_aftQ0 {v : Option Nat} (hr : va_Run p l e R0 s m args below meth c H locs cells slots 0 0 (F0 m pc ls st0) rest (zQq D (zOwn B K (B + n)) v B n' K' I' R' av) (zOwn B K (B + n))) (hW : zS A D B n K I R H0 H locs)
    (kk : ∀ (H1 : Heap) (locs1 : List Loc), zS A D B n' K' I' R' H0 H1 locs1 → W p l e R0 s m args below meth c H1 locs1 cells slots Q (F0 m (pc + 3) ls (zrf B v :: rest))) : W p l e R0 s m args below meth c H locs cells slots Q (F0 m pc ls st0) := ze_aftQ hr hW kk
theorem ze_max (X : zX p s m c cc nL own D) (hl : ls.size = nL) {idx : Nat} (w1 : Cond.methodLink own idx Lib.Math.max.name ∈ lw_tbl) (w2 : Cond.static Lib.Math.max.name ∈ lw_tbl) (w3 : Cond.initialized "java/lang/Math" ∈ lw_tbl) (w4 : Cond.code Lib.Math.max.name Lib.Math.max.code 2 (some .int) ∈ lw_tbl)
    (hframes : 1 ≤ R0.frames) (hlocals : (rest.map fun v => v.category).sum + 13 ≤ R0.locals) (hc : cells ≤ R0.cells) (hs : slots ≤ R0.slots) {x y : Int32} (hdg : decode cc pc = .ok (.invokestatic idx, 3))
    (kk : W p l e R0 s m args below meth c H locs cells slots Q (F0 m (pc + 3) ls (.int (if x < y then y else x) :: rest))) : W p l e R0 s m args below meth c H locs cells slots Q (F0 m pc ls (.int y :: .int x :: rest)) :=
  va_mmax X.1 X.2.1 (by rw [X.2.2.1, hl]) X.2.2.2.1 (X.2.2.2.2.use w1 rfl) (X.2.2.2.2.use w2 rfl) (X.2.2.2.2.use w3 rfl) (X.2.2.2.2.use w4 rfl) hframes hlocals hc hs hdg kk
theorem ze_min (X : zX p s m c cc nL own D) (hl : ls.size = nL) {idx : Nat} (w1 : Cond.methodLink own idx Lib.Math.min.name ∈ lw_tbl) (w2 : Cond.static Lib.Math.min.name ∈ lw_tbl) (w3 : Cond.initialized "java/lang/Math" ∈ lw_tbl) (w4 : Cond.code Lib.Math.min.name Lib.Math.min.code 2 (some .int) ∈ lw_tbl)
    (hframes : 1 ≤ R0.frames) (hlocals : (rest.map fun v => v.category).sum + 13 ≤ R0.locals) (hc : cells ≤ R0.cells) (hs : slots ≤ R0.slots) {x y : Int32} (hdg : decode cc pc = .ok (.invokestatic idx, 3))
    (kk : W p l e R0 s m args below meth c H locs cells slots Q (F0 m (pc + 3) ls (.int (if y < x then y else x) :: rest))) : W p l e R0 s m args below meth c H locs cells slots Q (F0 m pc ls (.int y :: .int x :: rest)) :=
  va_mmin X.1 X.2.1 (by rw [X.2.2.1, hl]) X.2.2.2.1 (X.2.2.2.2.use w1 rfl) (X.2.2.2.2.use w2 rfl) (X.2.2.2.2.use w3 rfl) (X.2.2.2.2.use w4 rfl) hframes hlocals hc hs hdg kk
theorem ze_obj (X : zX p s m c cc nL own D) (hl : ls.size = nL) {idx : Nat} {a : Nat} (w1 : Cond.methodLink own idx Lib.objectInit ∈ lw_tbl) (w2 : Cond.instanceMethod Lib.objectInit ∈ lw_tbl) (w3 : Cond.code Lib.objectInit ⟨#[0xb1]⟩ 1 none ∈ lw_tbl)
    (hframes : 1 ≤ R0.frames) (hlocals : 12 ≤ R0.locals) (hdg : decode cc pc = .ok (.invokespecial idx, 3))
    (kk : W p l e R0 s m args below meth c H locs cells slots Q (F0 m (pc + 3) ls [])) : W p l e R0 s m args below meth c H locs cells slots Q (F0 m pc ls [.ref (B + a)]) :=
  W.objInit X.1 X.2.1 X.2.2.2.1 (X.2.2.2.2.use w1 rfl) (X.2.2.2.2.use w2 rfl) (X.2.2.2.2.use w3 rfl) rfl (by rw [X.2.2.1]; exact hl) rfl hdg hframes hlocals kk
end ZH
theorem zi1 {α : Type} {a b : α} (h : some a = some b) : a = b := Option.some.inj h
theorem zi2 {α β : Type} {a b : α} {c d : β} (h : some (a, c) = some (b, d)) : a = b ∧ c = d := by
  have h1 := Option.some.inj h
  exact ⟨congrArg Prod.fst h1, congrArg Prod.snd h1⟩
theorem zi3 {α β γ : Type} {a b : α} {c d : β} {e f : γ} (h : some (a, c, e) = some (b, d, f)) : a = b ∧ c = d ∧ e = f := by
  have h1 := Option.some.inj h
  exact ⟨congrArg Prod.fst h1, congrArg (fun x => x.2.1) h1, congrArg (fun x => x.2.2) h1⟩
theorem zi4 {α β γ δ : Type} {a b : α} {c d : β} {e f : γ} {g i : δ} (h : some (a, c, e, g) = some (b, d, f, i)) : a = b ∧ c = d ∧ e = f ∧ g = i := by
  have h1 := Option.some.inj h
  exact ⟨congrArg Prod.fst h1, congrArg (fun x => x.2.1) h1, congrArg (fun x => x.2.2.1) h1, congrArg (fun x => x.2.2.2) h1⟩
theorem zi5 {α β γ δ ε : Type} {a b : α} {c d : β} {e f : γ} {g i : δ} {j k : ε} (h : some (a, c, e, g, j) = some (b, d, f, i, k)) : a = b ∧ c = d ∧ e = f ∧ g = i ∧ j = k := by
  have h1 := Option.some.inj h
  exact ⟨congrArg Prod.fst h1, congrArg (fun x => x.2.1) h1, congrArg (fun x => x.2.2.1) h1, congrArg (fun x => x.2.2.2.1) h1, congrArg (fun x => x.2.2.2.2) h1⟩
