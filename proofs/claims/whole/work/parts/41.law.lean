/-! THE CLAIM OUT OF ONE WALK OF THE LAW'S BODY. Your part is whole_start (and what it stands on); all else here is the same for every law, but numbers. -/
def R_law : String := "LeastPatternsLaw"
def lw_P (b : Addr) (xs : List Int32) (args : Array Value) (s : State) : Prop := args = #[.ref b] ∧ s.IntsAt b xs ∧ xs.length ≤ 3584 ∧ (Jvm.Cond.and given_1 narrow_1).before args s = true
def lw_Q (_ : Array Value) (s : State) (o : Outcome) (t : State) : Prop := o = .returned (some (.int 1)) ∧ Framed s o t [] 600000 7302250
def lw_Z (below : List Frame) (a : Array Value) (s : State) : State → Prop := fun t => ∃ o, t.status = .running ∧ Ended t below o ∧ lw_Q a s o t
/-- the law's own end, with 1 on the stack, nothing written that was there before, its room as the claim has it -/
theorem lw_ret {p : Program} {l : Launch} {e : Env} {s : State} {m : MethodId} {below : List Frame} {meth : Method} {c : Code} {b : Nat} (hx : p.tables.exec = Jvm.exec) (hb : c.code = code) (hr : meth.sig.returnType = ret) (hlocks : meth.locks = false) {pc : Nat} {H : Heap} {ls : Array Slot} (hdg : decode code pc = .ok (.ireturn, 1)) : W p l e room_1 s m #[Value.ref b] below meth c H [] 600000 7302250 (lw_Z below #[Value.ref b] s) (F0 m pc ls [.int 1]) := by
  intro T hT X
  obtain ⟨fs, hret, hrun, hended, hW, hframe⟩ := X.leave (v := some (.int 1)) (hlocks := hlocks) (fun h => by rw [hr] at h; cases h)
  have hmeth' : T.vm.method? m = some meth := X.method'
  refine ⟨T.setFrames fs, ?_, .returned (some (.int 1)), hrun, hended, rfl, ⟨_, rfl⟩, hW, hframe⟩
  jvm_step X.here [X.here.top, hx, hb, hdg, hmeth', hr, ret, narrow_b1]
  (try refine ⟨rfl, ?_⟩); (try refine ⟨rfl, ?_⟩)
  first | (intro acts; rw [hret _ acts rfl rfl rfl]) | rw [hret _ _ rfl rfl rfl]
  exact Steps.refl _
/-- what holds at the law's entry: the machine, the code, the tables' words (any of lw_tbl by 'hts w (by decide +kernel)'), the script of L ints xs at the cell b, what the Statement gives of the start (any of its parts by flat_of_before) -/
def lw_At (p : Program) (s : State) (m : MethodId) (meth : Method) (c : Code) (b L : Nat) (xs : Nat → Int32) : Prop :=
  p.tables.exec = Jvm.exec ∧ c.code = code ∧ meth.sig.returnType = ret ∧ c.maxLocals = 4 ∧ s.vm.findClass R_law = some m.cls ∧ (∀ w ∈ lw_tbl, w.before #[Value.ref b] s = true) ∧ va_X b L xs s s.heap ∧ b < s.heap.size ∧ meth.locks = false ∧ (Jvm.Cond.and given_1 narrow_1).before #[Value.ref b] s = true
theorem zc_none {D : zD} {B : Nat} {I : zI} {R : zR} {H : Heap} {a : Nat} : zc D B (fun _ => (0, 0)) I R H a := by
  refine ⟨fun t ht h => ?_, fun t ht h => ?_, fun ci r h => ?_⟩
  · have h : 0 = t := h
    omega
  · have h : 0 = t := h
    omega
  · have h : 0 = ci + 10 := h
    omega
theorem law_in {j L : Nat} (h1 : 7 * j ≤ 7 * 512) (h2 : L ≤ 7 * 512 + 6) (h : ¬ Int32.ofNat L - 7 < nI (7 * j)) : 7 * j + 7 ≤ L := by
  have e1 : (Int32.ofNat L).toInt = (L : Int) := nI_toInt (n := L) (by omega)
  have e2 : (nI (7 * j)).toInt = ((7 * j : Nat) : Int) := nI_toInt (by omega)
  have e3 : (Int32.ofNat L - 7).toInt = (L : Int) - 7 := by
    rw [Int32.toInt_sub, e1]
    show ((L : Int) - (7 : Int32).toInt).bmod (2 ^ 32) = _
    rw [show (7 : Int32).toInt = 7 from by decide]
    rw [Int.bmod_def]
    split <;> omega
  rw [Int32.lt_iff_toInt_lt, e3, e2] at h
  omega
/-! THE LAW, over two worlds (the class: K I R; the reference: KM J RM), with what the pictures must do (zSteps) -/
abbrev zSimT : Type := Nat → zK → zI → zR → Nat → zK → zI → zR → Prop
/-- type -/
def zStep_type (F am : Nat) (Sim : zSimT) : Prop := ∀ (k : Nat) (K : zK) (I : zI) (R : zR) (n : Nat) (KM : zK) (J : zI) (RM : zR) (x1 : Int32), Sim (k + 1) K I R n KM J RM → ∃ (r : Int32) (I1 : zI) (J1 : zI), f_X6_type F K I R 0 x1 = some (r, I1) ∧ f_X7_type F KM J RM am x1 = some (r, J1) ∧ Sim k K I1 R n KM J1 RM
/-- clear -/
def zStep_clear (F am : Nat) (Sim : zSimT) : Prop := ∀ (k : Nat) (K : zK) (I : zI) (R : zR) (n : Nat) (KM : zK) (J : zI) (RM : zR), Sim (k + 1) K I R n KM J RM → ∃ (r : Int32) (I1 : zI) (J1 : zI), f_X6_clear F K I R 0 = some (r, I1) ∧ f_X7_clear F KM J RM am = some (r, J1) ∧ Sim k K I1 R n KM J1 RM
/-- put -/
def zStep_put (F am : Nat) (Sim : zSimT) : Prop := ∀ (k : Nat) (K : zK) (I : zI) (R : zR) (n : Nat) (KM : zK) (J : zI) (RM : zR) (x1 : Int32), Sim (k + 1) K I R n KM J RM → ∃ (r : Int32) (n1 : Nat) (K1 : zK) (I1 : zI) (R1 : zR) (J1 : zI), f_X6_put F n K I R 0 x1 = some (r, n1, K1, I1, R1) ∧ f_X7_put F KM J RM am x1 = some (r, J1) ∧ Sim k K1 I1 R1 n1 KM J1 RM
/-- fault -/
def zStep_fault (F am : Nat) (Sim : zSimT) : Prop := ∀ (k : Nat) (K : zK) (I : zI) (R : zR) (n : Nat) (KM : zK) (J : zI) (RM : zR), Sim (k + 1) K I R n KM J RM → ∃ (r : Int32), f_X6_fault F K I R 0 = some r ∧ f_X7_fault F KM J RM am = some r ∧ Sim k K I R n KM J RM
/-- empty -/
def zStep_empty (F am : Nat) (Sim : zSimT) : Prop := ∀ (k : Nat) (K : zK) (I : zI) (R : zR) (n : Nat) (KM : zK) (J : zI) (RM : zR) (x1 : Int32), Sim (k + 1) K I R n KM J RM → ∃ (r : Int32) (I1 : zI) (R1 : zR) (J1 : zI), f_X6_empty F K I R 0 x1 = some (r, I1, R1) ∧ f_X7_empty F KM J RM am x1 = some (r, J1) ∧ Sim k K I1 R1 n KM J1 RM
/-- set -/
def zStep_set (F am : Nat) (Sim : zSimT) : Prop := ∀ (k : Nat) (K : zK) (I : zI) (R : zR) (n : Nat) (KM : zK) (J : zI) (RM : zR) (x1 : Int32) (x2 : Int32), Sim (k + 1) K I R n KM J RM → ∃ (r : Int32) (I1 : zI) (R1 : zR) (J1 : zI), f_X6_set F K I R 0 x1 x2 = some (r, I1, R1) ∧ f_X7_set F KM J RM am x1 x2 = some (r, J1) ∧ Sim k K I1 R1 n KM J1 RM
/-- node -/
def zStep_node (F am : Nat) (Sim : zSimT) : Prop := ∀ (k : Nat) (K : zK) (I : zI) (R : zR) (n : Nat) (KM : zK) (J : zI) (RM : zR) (x1 : Int32) (x2 : Int32) (x3 : Int32), Sim (k + 1) K I R n KM J RM → ∃ (r : Int32) (J1 : zI), f_X6_node F K I R 0 x1 x2 x3 = some r ∧ f_X7_node F KM J RM am x1 x2 x3 = some (r, J1) ∧ Sim k K I R n KM J1 RM
/-- size -/
def zStep_size (F am : Nat) (Sim : zSimT) : Prop := ∀ (k : Nat) (K : zK) (I : zI) (R : zR) (n : Nat) (KM : zK) (J : zI) (RM : zR) (x1 : Int32) (x2 : Int32), Sim (k + 1) K I R n KM J RM → ∃ (r : Int32) (J1 : zI), f_X6_size F K I R 0 x1 x2 = some r ∧ f_X7_size F KM J RM am x1 x2 = some (r, J1) ∧ Sim k K I R n KM J1 RM
/-- join -/
def zStep_join (F am : Nat) (Sim : zSimT) : Prop := ∀ (k : Nat) (K : zK) (I : zI) (R : zR) (n : Nat) (KM : zK) (J : zI) (RM : zR) (x1 : Int32) (x2 : Int32) (x3 : Int32), Sim (k + 1) K I R n KM J RM → ∃ (r : Int32) (n1 : Nat) (K1 : zK) (I1 : zI) (R1 : zR) (J1 : zI), f_X6_join F n K I R 0 x1 x2 x3 = some (r, n1, K1, I1, R1) ∧ f_X7_join F KM J RM am x1 x2 x3 = some (r, J1) ∧ Sim k K1 I1 R1 n1 KM J1 RM
/-- joinAll -/
def zStep_joinAll (F am : Nat) (Sim : zSimT) : Prop := ∀ (k : Nat) (K : zK) (I : zI) (R : zR) (n : Nat) (KM : zK) (J : zI) (RM : zR) (x1 : Int32) (x2 : Int32), Sim (k + 1) K I R n KM J RM → ∃ (r : Int32) (n1 : Nat) (K1 : zK) (I1 : zI) (R1 : zR) (J1 : zI), f_X6_joinAll F n K I R 0 x1 x2 = some (r, n1, K1, I1, R1) ∧ f_X7_joinAll F KM J RM am x1 x2 = some (r, J1) ∧ Sim k K1 I1 R1 n1 KM J1 RM
/-- origin -/
def zStep_origin (F am : Nat) (Sim : zSimT) : Prop := ∀ (k : Nat) (K : zK) (I : zI) (R : zR) (n : Nat) (KM : zK) (J : zI) (RM : zR) (x1 : Int32) (x2 : Int32) (x3 : Int32) (x4 : Int32), Sim (k + 1) K I R n KM J RM → ∃ (r : Int32) (n1 : Nat) (K1 : zK) (I1 : zI) (R1 : zR) (J1 : zI), f_X6_origin F n K I R 0 x1 x2 x3 x4 = some (r, n1, K1, I1, R1) ∧ f_X7_origin F KM J RM am x1 x2 x3 x4 = some (r, J1) ∧ Sim k K1 I1 R1 n1 KM J1 RM
/-- covers -/
def zStep_covers (F am : Nat) (Sim : zSimT) : Prop := ∀ (k : Nat) (K : zK) (I : zI) (R : zR) (n : Nat) (KM : zK) (J : zI) (RM : zR) (x1 : Int32) (x2 : Int32), Sim (k + 1) K I R n KM J RM → ∃ (r : Int32) (I1 : zI) (R1 : zR) (J1 : zI), f_X6_covers F K I R 0 x1 x2 = some (r, I1, R1) ∧ f_X7_covers F KM J RM am x1 x2 = some (r, J1) ∧ Sim k K I1 R1 n KM J1 RM
/-- filled -/
def zStep_filled (F am : Nat) (Sim : zSimT) : Prop := ∀ (k : Nat) (K : zK) (I : zI) (R : zR) (n : Nat) (KM : zK) (J : zI) (RM : zR) (x1 : Int32) (x2 : Int32) (x3 : Int32) (x4 : Int32), Sim (k + 1) K I R n KM J RM → ∃ (r : Int32) (I1 : zI) (R1 : zR) (J1 : zI), f_X6_filled F K I R 0 x1 x2 x3 x4 = some (r, I1, R1) ∧ f_X7_filled F KM J RM am x1 x2 x3 x4 = some (r, J1) ∧ Sim k K I1 R1 n KM J1 RM
/-- compare -/
def zStep_compare (F am : Nat) (Sim : zSimT) : Prop := ∀ (k : Nat) (K : zK) (I : zI) (R : zR) (n : Nat) (KM : zK) (J : zI) (RM : zR) (x1 : Int32) (x2 : Int32), Sim (k + 1) K I R n KM J RM → ∃ (r : Int32) (I1 : zI) (R1 : zR) (J1 : zI), f_X6_compare F K I R 0 x1 x2 = some (r, I1, R1) ∧ f_X7_compare F KM J RM am x1 x2 = some (r, J1) ∧ Sim k K I1 R1 n KM J1 RM
/-- covered -/
def zStep_covered (F am : Nat) (Sim : zSimT) : Prop := ∀ (k : Nat) (K : zK) (I : zI) (R : zR) (n : Nat) (KM : zK) (J : zI) (RM : zR) (x1 : Int32), Sim (k + 1) K I R n KM J RM → ∃ (r : Int32) (I1 : zI) (R1 : zR) (J1 : zI), f_X6_covered F K I R 0 x1 = some (r, I1, R1) ∧ f_X7_covered F KM J RM am x1 = some (r, J1) ∧ Sim k K I1 R1 n KM J1 RM
/-- isLeast -/
def zStep_isLeast (F am : Nat) (Sim : zSimT) : Prop := ∀ (k : Nat) (K : zK) (I : zI) (R : zR) (n : Nat) (KM : zK) (J : zI) (RM : zR) (x1 : Int32) (x2 : Int32) (x3 : Int32), Sim (k + 1) K I R n KM J RM → ∃ (r : Int32) (I1 : zI) (R1 : zR) (J1 : zI), f_X6_isLeast F K I R 0 x1 x2 x3 = some (r, I1, R1) ∧ f_X7_isLeast F KM J RM am x1 x2 x3 = some (r, J1) ∧ Sim k K I1 R1 n KM J1 RM
/-- learn -/
def zStep_learn (F am : Nat) (Sim : zSimT) : Prop := ∀ (k : Nat) (K : zK) (I : zI) (R : zR) (n : Nat) (KM : zK) (J : zI) (RM : zR) (x1 : Int32) (x2 : Int32) (x3 : Int32) (x4 : Int32) (x5 : Int32) (x6 : Int32), Sim (k + 1) K I R n KM J RM → ∃ (r : Int32) (n1 : Nat) (K1 : zK) (I1 : zI) (R1 : zR) (J1 : zI), f_X6_learn F n K I R 0 x1 x2 x3 x4 x5 x6 = some (r, n1, K1, I1, R1) ∧ f_X7_learn F KM J RM am x1 x2 x3 x4 x5 x6 = some (r, J1) ∧ Sim k K1 I1 R1 n1 KM J1 RM
/-- apply -/
def zStep_apply (F am : Nat) (Sim : zSimT) : Prop := ∀ (k : Nat) (K : zK) (I : zI) (R : zR) (n : Nat) (KM : zK) (J : zI) (RM : zR) (x1 : Int32) (x2 : Int32) (x3 : Int32) (x4 : Int32), Sim (k + 1) K I R n KM J RM → ∃ (r : Int32) (n1 : Nat) (K1 : zK) (I1 : zI) (R1 : zR) (J1 : zI), f_X6_apply F n K I R 0 x1 x2 x3 x4 = some (r, n1, K1, I1, R1) ∧ f_X7_apply F KM J RM am x1 x2 x3 x4 = some (r, J1) ∧ Sim k K1 I1 R1 n1 KM J1 RM
/-- told -/
def zStep_told (F am : Nat) (Sim : zSimT) : Prop := ∀ (k : Nat) (K : zK) (I : zI) (R : zR) (n : Nat) (KM : zK) (J : zI) (RM : zR) (x1 : Int32), Sim (k + 1) K I R n KM J RM → ∃ (r : Int32), f_X6_told F K I R 0 x1 = some r ∧ f_X7_told F KM J RM am x1 = some r ∧ Sim k K I R n KM J RM
/-- undo -/
def zStep_undo (F am : Nat) (Sim : zSimT) : Prop := ∀ (k : Nat) (K : zK) (I : zI) (R : zR) (n : Nat) (KM : zK) (J : zI) (RM : zR), Sim (k + 1) K I R n KM J RM → ∃ (r : Int32) (I1 : zI) (R1 : zR) (J1 : zI), f_X6_undo F K I R 0 = some (r, I1, R1) ∧ f_X7_undo F KM J RM am = some (r, J1) ∧ Sim k K I1 R1 n KM J1 RM
/-- digest -/
def zStep_digest (F am : Nat) (Sim : zSimT) : Prop := ∀ (k : Nat) (K : zK) (I : zI) (R : zR) (n : Nat) (KM : zK) (J : zI) (RM : zR), Sim (k + 1) K I R n KM J RM → ∃ (r : Int64) (I1 : zI) (R1 : zR) (J1 : zI), f_X6_digest F K I R 0 = some (r, I1, R1) ∧ f_X7_digest F KM J RM am = some (r, J1) ∧ Sim k K I1 R1 n KM J1 RM
/-- what a relation between the two sides must keep: k calls may still come -/
def zSteps (F am : Nat) (Sim : zSimT) : Prop :=
  (∀ k K I R n KM J RM, Sim (k + 1) K I R n KM J RM → Sim k K I R n KM J RM) ∧ (∀ k K I R n KM J RM, Sim k K I R n KM J RM → (K 0).1 = 16 ∧ (KM am).1 = 17 ∧ (∀ b, (K b).1 = 0 ∨ (KM b).1 = 0) ∧ (∀ b, (K b).1 ≠ 0 → b < n) ∧ ∀ b, (KM b).1 ≠ 0 → b < n) ∧
  zStep_type F am Sim ∧ zStep_clear F am Sim ∧ zStep_put F am Sim ∧ zStep_fault F am Sim ∧ zStep_empty F am Sim ∧ zStep_set F am Sim ∧ zStep_node F am Sim ∧ zStep_size F am Sim ∧ zStep_join F am Sim ∧ zStep_joinAll F am Sim ∧ zStep_origin F am Sim ∧ zStep_covers F am Sim ∧ zStep_filled F am Sim ∧ zStep_compare F am Sim ∧ zStep_covered F am Sim ∧ zStep_isLeast F am Sim ∧ zStep_learn F am Sim ∧ zStep_apply F am Sim ∧ zStep_told F am Sim ∧ zStep_undo F am Sim ∧ zStep_digest F am Sim
def zBirth (F am T : Nat) (Sim : zSimT) : Prop := ∃ (K : zK) (I : zI) (R : zR) (n2 : Nat) (KM : zK) (J : zI) (RM : zR),
  zbd4 (some (0 + 1, zset (fun _ => (0, 0)) 0 (6 + 10, 0), zclr (fun _ _ => 0) 0 0, zclr (fun _ _ => none) 0 none)) (fun n1 K1 I1 R1 => f_X6_init F n1 K1 I1 R1 0) = some (am, K, I, R) ∧ (∀ b, (K b).1 ≠ 0 → b < am) ∧
  f_X7_init F (am + 1) (zset (fun _ => (0, 0)) am (7 + 10, 0)) (zclr (fun _ _ => 0) am 0) (zclr (fun _ _ => none) am none) am = some (n2, KM, J, RM) ∧ Sim T K I R n2 KM J RM
theorem lg_cmp_same (x : Int64) : lg_cmp x x = 0 := by
  unfold lg_cmp
  rw [if_neg (by exact fun h => absurd h (Int64.lt_irrefl)), if_pos rfl]
section ZL
variable {p : Program} {l : Launch} {e : Env} {R0 : Room} {s : State} {m : MethodId} {args : Array Value} {below : List Frame} {meth : Method} {c : Code} {H : Heap} {locs : List Loc} {cells slots mc ms : Nat} {Q : State → Prop}
variable {cc : ByteArray} {nL : Nat} {own : String} {pc : Nat} {ls : Array Slot} {rest st0 : List Value} {A : Nat → Prop} {D : zD} {B n n' : Nat} {K K' K2 : zK} {I I' I2 : zI} {R R' R2 : zR} {H0 : Heap} {av : Array Value}
theorem zl_other {H1 : Heap} {locs1 : List Loc} (hV : zS A D B n K2 I2 R2 H0 H locs) (hdj : ∀ b, (K b).1 = 0 ∨ (K2 b).1 = 0) (hlt : ∀ b, (K2 b).1 ≠ 0 → b < n) (hsz : H1.size = B + n') (hk : ∀ q, q < H.size → ¬ zOwn B K (B + n) q → H1[q]? = H[q]?) (hS : va_S A H0 H1 locs1) : zS A D B n' K2 I2 R2 H0 H1 locs1 := by
  refine ⟨⟨fun b => (hV.1.1 b).kept (fun hb => hk _ ?_ ?_) rfl rfl rfl, hsz⟩, hS, hV.2.2.1, hV.2.2.2⟩
  · have h1 := hV.1.2
    have h2 := hlt b hb
    omega
  · rintro (⟨a, h1, h2⟩ | h)
    · have h3 : a = b := by omega
      subst h3
      rcases hdj a with h | h
      · exact h2 h
      · exact hb h
    · have h2 := hlt b hb
      omega
theorem zl_bothI {v : Int32} (hr : va_Run p l e R0 s m args below meth c H locs cells slots mc ms (F0 m pc ls st0) rest (zQi D (zOwn B K (B + n)) v B n' K' I' R' av) (zOwn B K (B + n))) (hW : zS A D B n K I R H0 H locs) (hV : zS A D B n K2 I2 R2 H0 H locs) (hdj : ∀ b, (K b).1 = 0 ∨ (K2 b).1 = 0) (hlt : ∀ b, (K2 b).1 ≠ 0 → b < n)
    (kk : ∀ (H1 : Heap) (locs1 : List Loc), zS A D B n' K' I' R' H0 H1 locs1 → zS A D B n' K2 I2 R2 H0 H1 locs1 → W p l e R0 s m args below meth c H1 locs1 (cells + mc) (slots + ms) Q (F0 m (pc + 3) ls (.int v :: rest))) : W p l e R0 s m args below meth c H locs cells slots Q (F0 m pc ls st0) :=
  va_calli hr hW.2.1 (fun q _ h => zOwn_sub hW q h) (zOwn_sub hW) fun r u t H1 locs1 ht _ hpost hb _ hk hS => by
    subst hpost
    exact kk H1 locs1 (zafter hW ht hb hS) (zl_other hV hdj hlt (by rw [← ht]; exact hb.1.2) hk hS)
theorem zl_bothL {v : Int64} (hr : va_Run p l e R0 s m args below meth c H locs cells slots mc ms (F0 m pc ls st0) rest (zQl D (zOwn B K (B + n)) v B n' K' I' R' av) (zOwn B K (B + n))) (hW : zS A D B n K I R H0 H locs) (hV : zS A D B n K2 I2 R2 H0 H locs) (hdj : ∀ b, (K b).1 = 0 ∨ (K2 b).1 = 0) (hlt : ∀ b, (K2 b).1 ≠ 0 → b < n)
    (kk : ∀ (H1 : Heap) (locs1 : List Loc), zS A D B n' K' I' R' H0 H1 locs1 → zS A D B n' K2 I2 R2 H0 H1 locs1 → W p l e R0 s m args below meth c H1 locs1 (cells + mc) (slots + ms) Q (F0 m (pc + 3) ls (.long v :: rest))) : W p l e R0 s m args below meth c H locs cells slots Q (F0 m pc ls st0) :=
  va_calll hr hW.2.1 (fun q _ h => zOwn_sub hW q h) (zOwn_sub hW) fun r u t H1 locs1 ht _ hpost hb _ hk hS => by
    subst hpost
    exact kk H1 locs1 (zafter hW ht hb hS) (zl_other hV hdj hlt (by rw [← ht]; exact hb.1.2) hk hS)
theorem zl_bothV (hr : va_Run p l e R0 s m args below meth c H locs cells slots mc ms (F0 m pc ls st0) rest (zQv D (zOwn B K (B + n)) B n' K' I' R' av) (zOwn B K (B + n))) (hW : zS A D B n K I R H0 H locs) (hV : zS A D B n K2 I2 R2 H0 H locs) (hdj : ∀ b, (K b).1 = 0 ∨ (K2 b).1 = 0) (hlt : ∀ b, (K2 b).1 ≠ 0 → b < n)
    (kk : ∀ (H1 : Heap) (locs1 : List Loc), zS A D B n' K' I' R' H0 H1 locs1 → zS A D B n' K2 I2 R2 H0 H1 locs1 → W p l e R0 s m args below meth c H1 locs1 (cells + mc) (slots + ms) Q (F0 m (pc + 3) ls rest)) : W p l e R0 s m args below meth c H locs cells slots Q (F0 m pc ls st0) :=
  va_callv hr hW.2.1 (fun q _ h => zOwn_sub hW q h) (zOwn_sub hW) fun u t H1 locs1 ht _ _ hb _ hk hS => kk H1 locs1 (zafter hW ht hb hS) (zl_other hV hdj hlt (by rw [← ht]; exact hb.1.2) hk hS)
theorem zl_new (X : zX p s m c cc nL own D) (ci idx : Nat) (r : vw_C) (hc : vwCl[ci]? = some r) (hl : Cond.classLink own idx r.1 ∈ lw_tbl) (hin : Cond.instantiable r.1 r.2.2 ∈ lw_tbl) (hini : Cond.initialized r.1 ∈ lw_tbl) (hW : zS A D B n K I R H0 H locs) (hV : zS A D B n K2 I2 R2 H0 H locs) (hlt : ∀ b, (K2 b).1 ≠ 0 → b < n) (h1 : cells + 1 ≤ R0.cells) (h2 : slots + r.2.2 ≤ R0.slots) (hdg : decode cc pc = .ok (.new idx, 3))
    (kk : ∀ H1 : Heap, zS A D B (n + 1) (zset K n (ci + 10, 0)) (zclr I n 0) (zclr R n none) H0 H1 locs → zS A D B (n + 1) K2 I2 R2 H0 H1 locs → W p l e R0 s m args below meth c H1 locs (cells + 1) (slots + r.2.2) Q (F0 m (pc + 3) ls (.ref (B + n) :: rest))) : W p l e R0 s m args below meth c H locs cells slots Q (F0 m pc ls rest) := by
  obtain ⟨hx, hb, -, hown, hKN⟩ := X
  have hKn := hKN.2.1 ci _ hc
  have hn : H.size = B + n := hW.1.2
  refine W.newcK hx hb hown (hKN.use hl rfl) (hKN.use hin rfl) (hKN.use hini rfl) rfl hdg h1 h2 hKn.2.1 hn fun H1 kC hkC e1 z1 o1 => ?_
  refine kk H1 (znew_world hW (by omega) (fun q hq => o1 q (by omega)) (fun b hb => zclr_ne _ _ hb) (fun b hb => zclr_ne _ _ hb) ⟨fun t ht ek => ?_, fun t ht ek => ?_, fun ci' r' ek hr' => ?_⟩) ⟨⟨fun b => (hV.1.1 b).kept (fun hb => o1 _ (by have h3 := hlt b hb; omega)) rfl rfl rfl, by omega⟩, ⟨Nat.le_trans hV.2.1.1 (by omega), fun q g1 g2 => (o1 q (by have g3 := hV.2.1.1; omega)).trans (hV.2.1.2.1 q g1 g2), hV.2.1.2.2⟩, hV.2.2.1, hV.2.2.2⟩
  · rw [zset_self] at ek; simp at ek; omega
  · rw [zset_self] at ek; simp at ek; omega
  · rw [zset_self] at ek
    have hci : ci' = ci := by (simp at ek <;> omega)
    subst hci
    cases hc.symm.trans hr'
    obtain ⟨ty0, hty, hdf⟩ := zty2 hc
    have hts : ∀ w ∈ u_ws r.1 r.2.1 r.2.2, w.before (#[] : Array Value) s = true := zlay hKN hc
    refine (u_born ty0 hts (fun w h => h) hKn hkC e1 hty).to fun k hk => ?_
    rw [hdf k hk]
    unfold zv
    cases zrk ci' k <;> simp [zclr, zrf, va_rf]
end ZL
/-- the classes and arrays that the tables name -/
theorem zKN_start {s : State} {args : Array Value} (hts : ∀ w ∈ lw_tbl, w.before args s = true) : ∃ D : zD, zKN D s := by
  have hin : ∀ (ci : Nat) (r : vw_C), vwCl[ci]? = some r → ∃ (cC : ClassId) (iS : Nat → Nat), u_Kn s r.1 r.2.1 r.2.2 cC iS := by
    intro ci r hc
    match ci, hc with
    | 0, hc => cases hc; exact u_known hts zinl0 (hts (.instantiable RX0 13) (kci_X0))
    | 1, hc => cases hc; exact u_known hts zinl1 (hts (.instantiable RX1 8) (kci_X1))
    | 2, hc => cases hc; exact u_known hts zinl2 (hts (.instantiable RX2 9) (kci_X2))
    | 3, hc => cases hc; exact u_known hts zinl3 (hts (.instantiable RX3 5) (kci_X3))
    | 4, hc => cases hc; exact u_known hts zinl4 (hts (.instantiable RX4 2) (kci_X4))
    | 5, hc => cases hc; exact u_known hts zinl5 (hts (.instantiable RX5 4) (kci_X5))
    | 6, hc => cases hc; exact u_known hts zinl6 (hts (.instantiable RX6 11) (kci_X6))
    | 7, hc => cases hc; exact u_known hts zinl7 (hts (.instantiable RX7 39) (kci_X7))
    | k + 8, hc => simp [vwCl] at hc
  have hch : ∀ ci : Nat, ∃ (cC : ClassId) (iS : Nat → Nat), ∀ r, vwCl[ci]? = some r → u_Kn s r.1 r.2.1 r.2.2 cC iS := by
    intro ci
    cases h : vwCl[ci]? with
    | none => exact ⟨0, fun _ => 0, fun r hr => by cases hr⟩
    | some r =>
      obtain ⟨cC, iS, hk⟩ := hin ci r h
      exact ⟨cC, iS, fun r' hr => by cases hr; exact hk⟩
  have arrP : ∀ ty : FieldType, Cond.arrayClass ty ∈ lw_tbl → (∀ C, ty ≠ .object C) → ∃ cA : ClassId, ArrOfT s cA ty ∧ va_RA s cA ty := by
    intro ty hm hne
    obtain ⟨cA, kA, comp, h1, h2, h3⟩ := Cond.arrayClass_spec (hts _ hm)
    refine ⟨cA, fun n z => ⟨fun k h => (by cases h), kA, h2, comp, h3⟩, ?_⟩
    cases ty with
    | object C => exact absurd rfl (hne C)
    | _ => exact h1
  have arrR : ∀ C : String, Cond.arrayOver (.object C) ∈ lw_tbl → ∃ cA : ClassId, ArrOfT s cA (.object C) ∧ va_RA s cA (.object C) := by
    intro C hm
    obtain ⟨comp, cA, kA, h1, -, h3, h4, h5⟩ := Cond.arrayOver_spec (hts _ hm)
    exact ⟨cA, fun n z => ⟨fun k h => (by cases h), kA, h3, comp, h4⟩, kA, comp, h3, h4, h1, h5⟩
  obtain ⟨cI, hI⟩ := arrP .int kar_int (fun C h => by cases h)
  obtain ⟨cZ, hZ⟩ := arrP .boolean kar_boolean (fun C h => by cases h)
  obtain ⟨c4, h4⟩ := arrR RX4 kov_X4
  obtain ⟨c5, h5⟩ := arrR RX5 kov_X5
  refine ⟨((fun ci => Classical.choose (hch ci), fun ci => Classical.choose (Classical.choose_spec (hch ci))), fun t => if t = 1 then cI else if t = 2 then cZ else if t = 3 then c4 else c5), fun w hw hk => zw_warm (State.WarmedH.refl s) hk (hts w hw), fun ci q hq => Classical.choose_spec (Classical.choose_spec (hch ci)) q hq, fun k q hq => ?_⟩
  match k, hq with
  | 0, hq => cases hq; exact hI
  | 1, hq => cases hq; exact hZ
  | 2, hq => cases hq; exact h4
  | 3, hq => cases hq; exact h5
  | k + 4, hq => simp at hq
set_option maxRecDepth 100000 in
set_option maxHeartbeats 8000000 in
/-- the law's loop: at its head, behind j calls -/
theorem law_loop {p : Program} {l : Launch} {e : Env} {s : State} {m : MethodId} {below : List Frame} {meth : Method} {c : Code} {D : zD} {b L F am T : Nat} {xs : Nat → Int32} {Sim : zSimT} (hst : zSteps F am Sim) (hT : T ≤ 512) (hL : L ≤ 7 * T + 6) (C0 : lw_At p s m meth c b L xs) (X : zX p s m c code 4 RL D) (B : Nat) (hB : B = s.heap.size) :
    ∀ (d j : Nat), T - j = d → 7 * j ≤ L ∨ j = 0 → ∀ (K : zK) (I : zI) (R : zR) (n : Nat) (KM : zK) (J : zI) (RM : zR) (cells slots : Nat) (H : Heap) (locs : List Loc) (ls : Array Slot), Sim (T - j) K I R n KM J RM → zS (fun q : Nat => s.heap.size ≤ q) D B n K I R s.heap H locs → zS (fun q : Nat => s.heap.size ≤ q) D B n KM J RM s.heap H locs → cells ≤ 1000 + 40 * j → slots ≤ 20000 + 1000 * j → lv_has ls 4 [(0, .ref b), (1, .ref (B + 0)), (2, .ref (B + am)), (3, .int (nI (7 * j)))] → W p l e room_1 s m #[Value.ref b] below meth c H locs cells slots (lw_Z below #[Value.ref b] s) (F0 m 18 ls []) := by
  obtain ⟨hx, hb, hr, hml, hown, hts, hX, hbl, hlocks, hgv⟩ := C0
  have hbA : ¬ (fun q : Nat => s.heap.size ≤ q) b := Nat.not_le.mpr hbl
  intro d
  induction d with
  | zero =>
    intro j hd hj K I R n KM J RM cells slots H locs ls hSim hW hV hc1 hc2 hl
    refine lv_iload_n X.1 X.2.1 dL_law_18 rfl (lv_at hl 3 rfl) ?_
    refine lv_aload_n X.1 X.2.1 dL_law_19 rfl (lv_at hl 0 rfl) ?_
    refine va_slen X.1 X.2.1 hX hbl hbA hW.2.1 dL_law_20 ?_
    refine lv_bipush (v := 7) X.1 X.2.1 dL_law_21 (by decide) ?_
    refine lv_isub X.1 X.2.1 dL_law_23 ?_
    refine lv_icmp_gt (tgt := 834) X.1 X.2.1 dL_law_24 (by decide) (fun c1 => ?_) (fun c1 => ?_)
    · refine lv_iconst (v := 1) X.1 X.2.1 dL_law_834 (by decide) ?_
      refine va_forget (fun q hq => hW.2.1.2.2 q hq) ?_
      refine W.widen (k := 600000) (n := 7302250) (by omega) (by omega) ?_
      exact lw_ret X.1 X.2.1 hr hlocks dL_law_835
    · exact absurd (law_in (by omega) (by omega) c1) (by omega)
  | succ d ih =>
    intro j hd hj K I R n KM J RM cells slots H locs ls hSim hW hV hc1 hc2 hl
    refine lv_iload_n X.1 X.2.1 dL_law_18 rfl (lv_at hl 3 rfl) ?_
    refine lv_aload_n X.1 X.2.1 dL_law_19 rfl (lv_at hl 0 rfl) ?_
    refine va_slen X.1 X.2.1 hX hbl hbA hW.2.1 dL_law_20 ?_
    refine lv_bipush (v := 7) X.1 X.2.1 dL_law_21 (by decide) ?_
    refine lv_isub X.1 X.2.1 dL_law_23 ?_
    refine lv_icmp_gt (tgt := 834) X.1 X.2.1 dL_law_24 (by decide) (fun c1 => ?_) (fun c1 => ?_)
    · refine lv_iconst (v := 1) X.1 X.2.1 dL_law_834 (by decide) ?_
      refine va_forget (fun q hq => hW.2.1.2.2 q hq) ?_
      refine W.widen (k := 600000) (n := 7302250) (by omega) (by omega) ?_
      exact lw_ret X.1 X.2.1 hr hlocks dL_law_835
    · have hlt : 7 * j + 7 ≤ L := law_in (by omega) (by omega) c1
      obtain ⟨k, hk⟩ : ∃ k, T - j = k + 1 := ⟨d, hd⟩
      rw [hk] at hSim
      have hin : ∀ a : Nat, a < 7 → vp_in (nI (7 * j) + Int32.ofNat a) L := fun a ha => by
        show vp_in (nI (7 * j) + nI a) L
        rw [nI_add]
        exact nI_in (by omega) (by omega)
      have back : ∀ (K : zK) (I : zI) (R : zR) (n : Nat) (KM : zK) (J : zI) (RM : zR) (cells slots : Nat) (H : Heap) (locs : List Loc) (ls : Array Slot), Sim k K I R n KM J RM → zS (fun q : Nat => s.heap.size ≤ q) D B n K I R s.heap H locs → zS (fun q : Nat => s.heap.size ≤ q) D B n KM J RM s.heap H locs → cells ≤ 1000 + 40 * (j + 1) → slots ≤ 20000 + 1000 * (j + 1) → lv_has ls 4 [(0, .ref b), (1, .ref (B + 0)), (2, .ref (B + am)), (3, .int (nI (7 * j)))] → W p l e room_1 s m #[Value.ref b] below meth c H locs cells slots (lw_Z below #[Value.ref b] s) (F0 m 828 ls []) := by
        intro K I R n KM J RM cells slots H locs ls hSim hW hV hc1 hc2 hl
        refine ze_iinc (lv' := [(3, .int (nI (7 * j) + 7)), (0, .ref b), (1, .ref (B + 0)), (2, .ref (B + am))]) (d := 7) X.1 X.2.1 dL_law_828 hl (k := 3) rfl (by decide) (by decide) rfl (fun ls hl => ?_)
        refine lv_goto (tgt := 18) X.1 X.2.1 dL_law_831 (by decide) ?_
        have e7 : nI (7 * j) + 7 = nI (7 * (j + 1)) := by
          show nI (7 * j) + nI 7 = _
          rw [nI_add]
          exact congrArg nI (by omega)
        rw [e7] at hl
        have hTk : T - (j + 1) = k := by omega
        exact ih (j + 1) (by omega) (Or.inl (by omega)) K I R n KM J RM cells slots H locs ls (by rw [hTk]; exact hSim) hW hV (by omega) (by omega) (lv_sub hl [1, 2, 3, 0] rfl)
      refine lv_aload_n X.1 X.2.1 dL_law_27 rfl (lv_at hl 0 rfl) ?_
      refine lv_iload_n X.1 X.2.1 dL_law_28 rfl (lv_at hl 3 rfl) ?_
      have h0 : vp_in (nI (7 * j)) L := by
        have h := hin 0 (by omega)
        rwa [show nI (7 * j) + Int32.ofNat 0 = nI (7 * j) from Int32.add_zero _] at h
      refine va_sld X.1 X.2.1 hX hbl hbA hW.2.1 h0 dL_law_29 ?_
      refine lv_bipush (v := 31) X.1 X.2.1 dL_law_30 (by decide) ?_
      refine lv_iand X.1 X.2.1 dL_law_32 ?_
      generalize (xs (nI (7 * j)).toNatClampNeg &&& 31) = y
      by_cases q0 : y = 0
      · refine lv_tableIn (tgt := 132) X.1 X.2.1 dL_law_33 (by rw [q0]; decide) (by rw [q0]; decide) (by rw [q0]; rfl) (by decide) ?_
        obtain ⟨r, I1, J1, h1, h2, hS1⟩ := (hst.2.2.1) k K I R n KM J RM (xs (nI (7 * j) + 1).toNatClampNeg) hSim
        obtain ⟨z1, z2, z3, z4, z5⟩ := hst.2.1 _ _ _ _ _ _ _ _ hSim
        refine lv_aload_n X.1 X.2.1 dL_law_132 rfl (lv_at hl 1 rfl) ?_
        refine lv_aload_n X.1 X.2.1 dL_law_133 rfl (lv_at hl 0 rfl) ?_
        refine lv_iload_n X.1 X.2.1 dL_law_134 rfl (lv_at hl 3 rfl) ?_
        refine lv_iconst (v := 1) X.1 X.2.1 dL_law_135 (by decide) ?_
        refine lv_iadd X.1 X.2.1 dL_law_136 ?_
        refine va_sld X.1 X.2.1 hX hbl hbA hW.2.1 (hin 1 (by omega)) dL_law_137 ?_
        refine zl_bothI (ze_runV (As := [.int (xs (nI (7 * j) + 1).toNatClampNeg)]) (rest := []) X 6 13 (c_X6_type l D B n z1 h1) vX6_type kml_L_13 hW z1 rfl rfl ⟨by decide, by decide⟩ rfl hl.1 rfl (Nat.le_of_ble_eq_true rfl) ⟨by show _ + 0 ≤ (600000 : Nat); omega, by show _ + 0 ≤ (7302250 : Nat); omega⟩ dL_law_138) hW hV z3 z5 (fun H locs hW2 hV2 => ?_)
        replace hW := hW2
        replace hV := hV2
        obtain ⟨y1, y2, y3, y4, y5⟩ := hst.2.1 _ _ _ _ _ _ _ _ hS1
        refine lv_aload_n X.1 X.2.1 dL_law_141 rfl (lv_at hl 2 rfl) ?_
        refine lv_aload_n X.1 X.2.1 dL_law_142 rfl (lv_at hl 0 rfl) ?_
        refine lv_iload_n X.1 X.2.1 dL_law_143 rfl (lv_at hl 3 rfl) ?_
        refine lv_iconst (v := 1) X.1 X.2.1 dL_law_144 (by decide) ?_
        refine lv_iadd X.1 X.2.1 dL_law_145 ?_
        refine va_sld X.1 X.2.1 hX hbl hbA hW.2.1 (hin 1 (by omega)) dL_law_146 ?_
        refine zl_bothI (ze_runV (As := [.int (xs (nI (7 * j) + 1).toNatClampNeg)]) (rest := [.int r]) X 7 17 (c_X7_type l D B n z2 h2) vX7_type kml_L_17 hV z2 rfl rfl ⟨by decide, by decide⟩ rfl hl.1 rfl (Nat.le_of_ble_eq_true rfl) ⟨by show _ + 0 ≤ (600000 : Nat); (try dsimp only); omega, by show _ + 0 ≤ (7302250 : Nat); (try dsimp only); omega⟩ dL_law_147) hV hW (fun b => (y3 b).symm) y4 (fun H locs hV2 hW2 => ?_)
        replace hW := hW2
        replace hV := hV2
        refine lv_icmp_eq (tgt := 828) X.1 X.2.1 dL_law_150 (by decide) (fun _ => ?_) (fun c => absurd rfl c)
        exact back _ _ _ _ _ _ _ _ _ _ _ _ hS1 hW hV (by (try dsimp only); omega) (by (try dsimp only); omega) hl
      by_cases q1 : y = 1
      · refine lv_tableIn (tgt := 155) X.1 X.2.1 dL_law_33 (by rw [q1]; decide) (by rw [q1]; decide) (by rw [q1]; rfl) (by decide) ?_
        obtain ⟨r, I1, J1, h1, h2, hS1⟩ := (hst.2.2.2.1) k K I R n KM J RM  hSim
        obtain ⟨z1, z2, z3, z4, z5⟩ := hst.2.1 _ _ _ _ _ _ _ _ hSim
        refine lv_aload_n X.1 X.2.1 dL_law_155 rfl (lv_at hl 1 rfl) ?_
        refine zl_bothI (ze_runV (As := []) (rest := []) X 6 18 (c_X6_clear l D B n z1 h1) vX6_clear kml_L_18 hW z1 rfl rfl ⟨by decide, by decide⟩ rfl hl.1 rfl (Nat.le_of_ble_eq_true rfl) ⟨by show _ + 0 ≤ (600000 : Nat); omega, by show _ + 0 ≤ (7302250 : Nat); omega⟩ dL_law_156) hW hV z3 z5 (fun H locs hW2 hV2 => ?_)
        replace hW := hW2
        replace hV := hV2
        obtain ⟨y1, y2, y3, y4, y5⟩ := hst.2.1 _ _ _ _ _ _ _ _ hS1
        refine lv_aload_n X.1 X.2.1 dL_law_159 rfl (lv_at hl 2 rfl) ?_
        refine zl_bothI (ze_runV (As := []) (rest := [.int r]) X 7 22 (c_X7_clear l D B n z2 h2) vX7_clear kml_L_22 hV z2 rfl rfl ⟨by decide, by decide⟩ rfl hl.1 rfl (Nat.le_of_ble_eq_true rfl) ⟨by show _ + 0 ≤ (600000 : Nat); (try dsimp only); omega, by show _ + 0 ≤ (7302250 : Nat); (try dsimp only); omega⟩ dL_law_160) hV hW (fun b => (y3 b).symm) y4 (fun H locs hV2 hW2 => ?_)
        replace hW := hW2
        replace hV := hV2
        refine lv_icmp_eq (tgt := 828) X.1 X.2.1 dL_law_163 (by decide) (fun _ => ?_) (fun c => absurd rfl c)
        exact back _ _ _ _ _ _ _ _ _ _ _ _ hS1 hW hV (by (try dsimp only); omega) (by (try dsimp only); omega) hl
      by_cases q2 : y = 2
      · refine lv_tableIn (tgt := 168) X.1 X.2.1 dL_law_33 (by rw [q2]; decide) (by rw [q2]; decide) (by rw [q2]; rfl) (by decide) ?_
        obtain ⟨r, n1, K1, I1, R1, J1, h1, h2, hS1⟩ := (hst.2.2.2.2.1) k K I R n KM J RM (xs (nI (7 * j) + 1).toNatClampNeg) hSim
        obtain ⟨z1, z2, z3, z4, z5⟩ := hst.2.1 _ _ _ _ _ _ _ _ hSim
        refine lv_aload_n X.1 X.2.1 dL_law_168 rfl (lv_at hl 1 rfl) ?_
        refine lv_aload_n X.1 X.2.1 dL_law_169 rfl (lv_at hl 0 rfl) ?_
        refine lv_iload_n X.1 X.2.1 dL_law_170 rfl (lv_at hl 3 rfl) ?_
        refine lv_iconst (v := 1) X.1 X.2.1 dL_law_171 (by decide) ?_
        refine lv_iadd X.1 X.2.1 dL_law_172 ?_
        refine va_sld X.1 X.2.1 hX hbl hbA hW.2.1 (hin 1 (by omega)) dL_law_173 ?_
        refine zl_bothI (ze_runV (As := [.int (xs (nI (7 * j) + 1).toNatClampNeg)]) (rest := []) X 6 23 (c_X6_put l D B n h1) vX6_put kml_L_23 hW z1 rfl rfl ⟨by decide, by decide⟩ rfl hl.1 rfl (Nat.le_of_ble_eq_true rfl) ⟨by show _ + 8 ≤ (600000 : Nat); omega, by show _ + 200 ≤ (7302250 : Nat); omega⟩ dL_law_174) hW hV z3 z5 (fun H locs hW2 hV2 => ?_)
        replace hW := hW2
        replace hV := hV2
        obtain ⟨y1, y2, y3, y4, y5⟩ := hst.2.1 _ _ _ _ _ _ _ _ hS1
        refine lv_aload_n X.1 X.2.1 dL_law_177 rfl (lv_at hl 2 rfl) ?_
        refine lv_aload_n X.1 X.2.1 dL_law_178 rfl (lv_at hl 0 rfl) ?_
        refine lv_iload_n X.1 X.2.1 dL_law_179 rfl (lv_at hl 3 rfl) ?_
        refine lv_iconst (v := 1) X.1 X.2.1 dL_law_180 (by decide) ?_
        refine lv_iadd X.1 X.2.1 dL_law_181 ?_
        refine va_sld X.1 X.2.1 hX hbl hbA hW.2.1 (hin 1 (by omega)) dL_law_182 ?_
        refine zl_bothI (ze_runV (As := [.int (xs (nI (7 * j) + 1).toNatClampNeg)]) (rest := [.int r]) X 7 26 (c_X7_put l D B n1 z2 h2) vX7_put kml_L_26 hV z2 rfl rfl ⟨by decide, by decide⟩ rfl hl.1 rfl (Nat.le_of_ble_eq_true rfl) ⟨by show _ + 0 ≤ (600000 : Nat); (try dsimp only); omega, by show _ + 0 ≤ (7302250 : Nat); (try dsimp only); omega⟩ dL_law_183) hV hW (fun b => (y3 b).symm) y4 (fun H locs hV2 hW2 => ?_)
        replace hW := hW2
        replace hV := hV2
        refine lv_icmp_eq (tgt := 828) X.1 X.2.1 dL_law_186 (by decide) (fun _ => ?_) (fun c => absurd rfl c)
        exact back _ _ _ _ _ _ _ _ _ _ _ _ hS1 hW hV (by (try dsimp only); omega) (by (try dsimp only); omega) hl
      by_cases q3 : y = 3
      · refine lv_tableIn (tgt := 191) X.1 X.2.1 dL_law_33 (by rw [q3]; decide) (by rw [q3]; decide) (by rw [q3]; rfl) (by decide) ?_
        obtain ⟨r, h1, h2, hS1⟩ := (hst.2.2.2.2.2.1) k K I R n KM J RM  hSim
        obtain ⟨z1, z2, z3, z4, z5⟩ := hst.2.1 _ _ _ _ _ _ _ _ hSim
        refine lv_aload_n X.1 X.2.1 dL_law_191 rfl (lv_at hl 1 rfl) ?_
        refine zl_bothI (ze_runV (As := []) (rest := []) X 6 27 (c_X6_fault l D B n z1 h1) vX6_fault kml_L_27 hW z1 rfl rfl ⟨by decide, by decide⟩ rfl hl.1 rfl (Nat.le_of_ble_eq_true rfl) ⟨by show _ + 0 ≤ (600000 : Nat); omega, by show _ + 0 ≤ (7302250 : Nat); omega⟩ dL_law_192) hW hV z3 z5 (fun H locs hW2 hV2 => ?_)
        replace hW := hW2
        replace hV := hV2
        obtain ⟨y1, y2, y3, y4, y5⟩ := hst.2.1 _ _ _ _ _ _ _ _ hS1
        refine lv_aload_n X.1 X.2.1 dL_law_195 rfl (lv_at hl 2 rfl) ?_
        refine zl_bothI (ze_runV (As := []) (rest := [.int r]) X 7 30 (c_X7_fault l D B n z2 h2) vX7_fault kml_L_30 hV z2 rfl rfl ⟨by decide, by decide⟩ rfl hl.1 rfl (Nat.le_of_ble_eq_true rfl) ⟨by show _ + 0 ≤ (600000 : Nat); (try dsimp only); omega, by show _ + 0 ≤ (7302250 : Nat); (try dsimp only); omega⟩ dL_law_196) hV hW (fun b => (y3 b).symm) y4 (fun H locs hV2 hW2 => ?_)
        replace hW := hW2
        replace hV := hV2
        refine lv_icmp_eq (tgt := 828) X.1 X.2.1 dL_law_199 (by decide) (fun _ => ?_) (fun c => absurd rfl c)
        exact back _ _ _ _ _ _ _ _ _ _ _ _ hS1 hW hV (by (try dsimp only); omega) (by (try dsimp only); omega) hl
      by_cases q4 : y = 4
      · refine lv_tableIn (tgt := 204) X.1 X.2.1 dL_law_33 (by rw [q4]; decide) (by rw [q4]; decide) (by rw [q4]; rfl) (by decide) ?_
        obtain ⟨r, I1, R1, J1, h1, h2, hS1⟩ := (hst.2.2.2.2.2.2.1) k K I R n KM J RM (xs (nI (7 * j) + 1).toNatClampNeg) hSim
        obtain ⟨z1, z2, z3, z4, z5⟩ := hst.2.1 _ _ _ _ _ _ _ _ hSim
        refine lv_aload_n X.1 X.2.1 dL_law_204 rfl (lv_at hl 1 rfl) ?_
        refine lv_aload_n X.1 X.2.1 dL_law_205 rfl (lv_at hl 0 rfl) ?_
        refine lv_iload_n X.1 X.2.1 dL_law_206 rfl (lv_at hl 3 rfl) ?_
        refine lv_iconst (v := 1) X.1 X.2.1 dL_law_207 (by decide) ?_
        refine lv_iadd X.1 X.2.1 dL_law_208 ?_
        refine va_sld X.1 X.2.1 hX hbl hbA hW.2.1 (hin 1 (by omega)) dL_law_209 ?_
        refine zl_bothI (ze_runV (As := [.int (xs (nI (7 * j) + 1).toNatClampNeg)]) (rest := []) X 6 31 (c_X6_empty l D B n z1 h1) vX6_empty kml_L_31 hW z1 rfl rfl ⟨by decide, by decide⟩ rfl hl.1 rfl (Nat.le_of_ble_eq_true rfl) ⟨by show _ + 0 ≤ (600000 : Nat); omega, by show _ + 0 ≤ (7302250 : Nat); omega⟩ dL_law_210) hW hV z3 z5 (fun H locs hW2 hV2 => ?_)
        replace hW := hW2
        replace hV := hV2
        obtain ⟨y1, y2, y3, y4, y5⟩ := hst.2.1 _ _ _ _ _ _ _ _ hS1
        refine lv_aload_n X.1 X.2.1 dL_law_213 rfl (lv_at hl 2 rfl) ?_
        refine lv_aload_n X.1 X.2.1 dL_law_214 rfl (lv_at hl 0 rfl) ?_
        refine lv_iload_n X.1 X.2.1 dL_law_215 rfl (lv_at hl 3 rfl) ?_
        refine lv_iconst (v := 1) X.1 X.2.1 dL_law_216 (by decide) ?_
        refine lv_iadd X.1 X.2.1 dL_law_217 ?_
        refine va_sld X.1 X.2.1 hX hbl hbA hW.2.1 (hin 1 (by omega)) dL_law_218 ?_
        refine zl_bothI (ze_runV (As := [.int (xs (nI (7 * j) + 1).toNatClampNeg)]) (rest := [.int r]) X 7 34 (c_X7_empty l D B n z2 h2) vX7_empty kml_L_34 hV z2 rfl rfl ⟨by decide, by decide⟩ rfl hl.1 rfl (Nat.le_of_ble_eq_true rfl) ⟨by show _ + 0 ≤ (600000 : Nat); (try dsimp only); omega, by show _ + 0 ≤ (7302250 : Nat); (try dsimp only); omega⟩ dL_law_219) hV hW (fun b => (y3 b).symm) y4 (fun H locs hV2 hW2 => ?_)
        replace hW := hW2
        replace hV := hV2
        refine lv_icmp_eq (tgt := 828) X.1 X.2.1 dL_law_222 (by decide) (fun _ => ?_) (fun c => absurd rfl c)
        exact back _ _ _ _ _ _ _ _ _ _ _ _ hS1 hW hV (by (try dsimp only); omega) (by (try dsimp only); omega) hl
      by_cases q5 : y = 5
      · refine lv_tableIn (tgt := 227) X.1 X.2.1 dL_law_33 (by rw [q5]; decide) (by rw [q5]; decide) (by rw [q5]; rfl) (by decide) ?_
        obtain ⟨r, I1, R1, J1, h1, h2, hS1⟩ := (hst.2.2.2.2.2.2.2.1) k K I R n KM J RM (xs (nI (7 * j) + 1).toNatClampNeg) (xs (nI (7 * j) + 2).toNatClampNeg) hSim
        obtain ⟨z1, z2, z3, z4, z5⟩ := hst.2.1 _ _ _ _ _ _ _ _ hSim
        refine lv_aload_n X.1 X.2.1 dL_law_227 rfl (lv_at hl 1 rfl) ?_
        refine lv_aload_n X.1 X.2.1 dL_law_228 rfl (lv_at hl 0 rfl) ?_
        refine lv_iload_n X.1 X.2.1 dL_law_229 rfl (lv_at hl 3 rfl) ?_
        refine lv_iconst (v := 1) X.1 X.2.1 dL_law_230 (by decide) ?_
        refine lv_iadd X.1 X.2.1 dL_law_231 ?_
        refine va_sld X.1 X.2.1 hX hbl hbA hW.2.1 (hin 1 (by omega)) dL_law_232 ?_
        refine lv_aload_n X.1 X.2.1 dL_law_233 rfl (lv_at hl 0 rfl) ?_
        refine lv_iload_n X.1 X.2.1 dL_law_234 rfl (lv_at hl 3 rfl) ?_
        refine lv_iconst (v := 2) X.1 X.2.1 dL_law_235 (by decide) ?_
        refine lv_iadd X.1 X.2.1 dL_law_236 ?_
        refine va_sld X.1 X.2.1 hX hbl hbA hW.2.1 (hin 2 (by omega)) dL_law_237 ?_
        refine zl_bothI (ze_runV (As := [.int (xs (nI (7 * j) + 1).toNatClampNeg), .int (xs (nI (7 * j) + 2).toNatClampNeg)]) (rest := []) X 6 35 (c_X6_set l D B n z1 h1) vX6_set kml_L_35 hW z1 rfl rfl ⟨by decide, by decide⟩ rfl hl.1 rfl (Nat.le_of_ble_eq_true rfl) ⟨by show _ + 0 ≤ (600000 : Nat); omega, by show _ + 0 ≤ (7302250 : Nat); omega⟩ dL_law_238) hW hV z3 z5 (fun H locs hW2 hV2 => ?_)
        replace hW := hW2
        replace hV := hV2
        obtain ⟨y1, y2, y3, y4, y5⟩ := hst.2.1 _ _ _ _ _ _ _ _ hS1
        refine lv_aload_n X.1 X.2.1 dL_law_241 rfl (lv_at hl 2 rfl) ?_
        refine lv_aload_n X.1 X.2.1 dL_law_242 rfl (lv_at hl 0 rfl) ?_
        refine lv_iload_n X.1 X.2.1 dL_law_243 rfl (lv_at hl 3 rfl) ?_
        refine lv_iconst (v := 1) X.1 X.2.1 dL_law_244 (by decide) ?_
        refine lv_iadd X.1 X.2.1 dL_law_245 ?_
        refine va_sld X.1 X.2.1 hX hbl hbA hW.2.1 (hin 1 (by omega)) dL_law_246 ?_
        refine lv_aload_n X.1 X.2.1 dL_law_247 rfl (lv_at hl 0 rfl) ?_
        refine lv_iload_n X.1 X.2.1 dL_law_248 rfl (lv_at hl 3 rfl) ?_
        refine lv_iconst (v := 2) X.1 X.2.1 dL_law_249 (by decide) ?_
        refine lv_iadd X.1 X.2.1 dL_law_250 ?_
        refine va_sld X.1 X.2.1 hX hbl hbA hW.2.1 (hin 2 (by omega)) dL_law_251 ?_
        refine zl_bothI (ze_runV (As := [.int (xs (nI (7 * j) + 1).toNatClampNeg), .int (xs (nI (7 * j) + 2).toNatClampNeg)]) (rest := [.int r]) X 7 39 (c_X7_set l D B n z2 h2) vX7_set kml_L_39 hV z2 rfl rfl ⟨by decide, by decide⟩ rfl hl.1 rfl (Nat.le_of_ble_eq_true rfl) ⟨by show _ + 0 ≤ (600000 : Nat); (try dsimp only); omega, by show _ + 0 ≤ (7302250 : Nat); (try dsimp only); omega⟩ dL_law_252) hV hW (fun b => (y3 b).symm) y4 (fun H locs hV2 hW2 => ?_)
        replace hW := hW2
        replace hV := hV2
        refine lv_icmp_eq (tgt := 828) X.1 X.2.1 dL_law_255 (by decide) (fun _ => ?_) (fun c => absurd rfl c)
        exact back _ _ _ _ _ _ _ _ _ _ _ _ hS1 hW hV (by (try dsimp only); omega) (by (try dsimp only); omega) hl
      by_cases q6 : y = 6
      · refine lv_tableIn (tgt := 260) X.1 X.2.1 dL_law_33 (by rw [q6]; decide) (by rw [q6]; decide) (by rw [q6]; rfl) (by decide) ?_
        obtain ⟨r, J1, h1, h2, hS1⟩ := (hst.2.2.2.2.2.2.2.2.1) k K I R n KM J RM (xs (nI (7 * j) + 1).toNatClampNeg) (xs (nI (7 * j) + 2).toNatClampNeg) (xs (nI (7 * j) + 3).toNatClampNeg) hSim
        obtain ⟨z1, z2, z3, z4, z5⟩ := hst.2.1 _ _ _ _ _ _ _ _ hSim
        refine lv_aload_n X.1 X.2.1 dL_law_260 rfl (lv_at hl 1 rfl) ?_
        refine lv_aload_n X.1 X.2.1 dL_law_261 rfl (lv_at hl 0 rfl) ?_
        refine lv_iload_n X.1 X.2.1 dL_law_262 rfl (lv_at hl 3 rfl) ?_
        refine lv_iconst (v := 1) X.1 X.2.1 dL_law_263 (by decide) ?_
        refine lv_iadd X.1 X.2.1 dL_law_264 ?_
        refine va_sld X.1 X.2.1 hX hbl hbA hW.2.1 (hin 1 (by omega)) dL_law_265 ?_
        refine lv_aload_n X.1 X.2.1 dL_law_266 rfl (lv_at hl 0 rfl) ?_
        refine lv_iload_n X.1 X.2.1 dL_law_267 rfl (lv_at hl 3 rfl) ?_
        refine lv_iconst (v := 2) X.1 X.2.1 dL_law_268 (by decide) ?_
        refine lv_iadd X.1 X.2.1 dL_law_269 ?_
        refine va_sld X.1 X.2.1 hX hbl hbA hW.2.1 (hin 2 (by omega)) dL_law_270 ?_
        refine lv_aload_n X.1 X.2.1 dL_law_271 rfl (lv_at hl 0 rfl) ?_
        refine lv_iload_n X.1 X.2.1 dL_law_272 rfl (lv_at hl 3 rfl) ?_
        refine lv_iconst (v := 3) X.1 X.2.1 dL_law_273 (by decide) ?_
        refine lv_iadd X.1 X.2.1 dL_law_274 ?_
        refine va_sld X.1 X.2.1 hX hbl hbA hW.2.1 (hin 3 (by omega)) dL_law_275 ?_
        refine zl_bothI (ze_runV (As := [.int (xs (nI (7 * j) + 1).toNatClampNeg), .int (xs (nI (7 * j) + 2).toNatClampNeg), .int (xs (nI (7 * j) + 3).toNatClampNeg)]) (rest := []) X 6 40 (c_X6_node l D B n z1 h1) vX6_node kml_L_40 hW z1 rfl rfl ⟨by decide, by decide⟩ rfl hl.1 rfl (Nat.le_of_ble_eq_true rfl) ⟨by show _ + 0 ≤ (600000 : Nat); omega, by show _ + 0 ≤ (7302250 : Nat); omega⟩ dL_law_276) hW hV z3 z5 (fun H locs hW2 hV2 => ?_)
        replace hW := hW2
        replace hV := hV2
        obtain ⟨y1, y2, y3, y4, y5⟩ := hst.2.1 _ _ _ _ _ _ _ _ hS1
        refine lv_aload_n X.1 X.2.1 dL_law_279 rfl (lv_at hl 2 rfl) ?_
        refine lv_aload_n X.1 X.2.1 dL_law_280 rfl (lv_at hl 0 rfl) ?_
        refine lv_iload_n X.1 X.2.1 dL_law_281 rfl (lv_at hl 3 rfl) ?_
        refine lv_iconst (v := 1) X.1 X.2.1 dL_law_282 (by decide) ?_
        refine lv_iadd X.1 X.2.1 dL_law_283 ?_
        refine va_sld X.1 X.2.1 hX hbl hbA hW.2.1 (hin 1 (by omega)) dL_law_284 ?_
        refine lv_aload_n X.1 X.2.1 dL_law_285 rfl (lv_at hl 0 rfl) ?_
        refine lv_iload_n X.1 X.2.1 dL_law_286 rfl (lv_at hl 3 rfl) ?_
        refine lv_iconst (v := 2) X.1 X.2.1 dL_law_287 (by decide) ?_
        refine lv_iadd X.1 X.2.1 dL_law_288 ?_
        refine va_sld X.1 X.2.1 hX hbl hbA hW.2.1 (hin 2 (by omega)) dL_law_289 ?_
        refine lv_aload_n X.1 X.2.1 dL_law_290 rfl (lv_at hl 0 rfl) ?_
        refine lv_iload_n X.1 X.2.1 dL_law_291 rfl (lv_at hl 3 rfl) ?_
        refine lv_iconst (v := 3) X.1 X.2.1 dL_law_292 (by decide) ?_
        refine lv_iadd X.1 X.2.1 dL_law_293 ?_
        refine va_sld X.1 X.2.1 hX hbl hbA hW.2.1 (hin 3 (by omega)) dL_law_294 ?_
        refine zl_bothI (ze_runV (As := [.int (xs (nI (7 * j) + 1).toNatClampNeg), .int (xs (nI (7 * j) + 2).toNatClampNeg), .int (xs (nI (7 * j) + 3).toNatClampNeg)]) (rest := [.int r]) X 7 44 (c_X7_node l D B n z2 h2) vX7_node kml_L_44 hV z2 rfl rfl ⟨by decide, by decide⟩ rfl hl.1 rfl (Nat.le_of_ble_eq_true rfl) ⟨by show _ + 0 ≤ (600000 : Nat); (try dsimp only); omega, by show _ + 0 ≤ (7302250 : Nat); (try dsimp only); omega⟩ dL_law_295) hV hW (fun b => (y3 b).symm) y4 (fun H locs hV2 hW2 => ?_)
        replace hW := hW2
        replace hV := hV2
        refine lv_icmp_eq (tgt := 828) X.1 X.2.1 dL_law_298 (by decide) (fun _ => ?_) (fun c => absurd rfl c)
        exact back _ _ _ _ _ _ _ _ _ _ _ _ hS1 hW hV (by (try dsimp only); omega) (by (try dsimp only); omega) hl
      by_cases q7 : y = 7
      · refine lv_tableIn (tgt := 303) X.1 X.2.1 dL_law_33 (by rw [q7]; decide) (by rw [q7]; decide) (by rw [q7]; rfl) (by decide) ?_
        obtain ⟨r, J1, h1, h2, hS1⟩ := (hst.2.2.2.2.2.2.2.2.2.1) k K I R n KM J RM (xs (nI (7 * j) + 1).toNatClampNeg) (xs (nI (7 * j) + 2).toNatClampNeg) hSim
        obtain ⟨z1, z2, z3, z4, z5⟩ := hst.2.1 _ _ _ _ _ _ _ _ hSim
        refine lv_aload_n X.1 X.2.1 dL_law_303 rfl (lv_at hl 1 rfl) ?_
        refine lv_aload_n X.1 X.2.1 dL_law_304 rfl (lv_at hl 0 rfl) ?_
        refine lv_iload_n X.1 X.2.1 dL_law_305 rfl (lv_at hl 3 rfl) ?_
        refine lv_iconst (v := 1) X.1 X.2.1 dL_law_306 (by decide) ?_
        refine lv_iadd X.1 X.2.1 dL_law_307 ?_
        refine va_sld X.1 X.2.1 hX hbl hbA hW.2.1 (hin 1 (by omega)) dL_law_308 ?_
        refine lv_aload_n X.1 X.2.1 dL_law_309 rfl (lv_at hl 0 rfl) ?_
        refine lv_iload_n X.1 X.2.1 dL_law_310 rfl (lv_at hl 3 rfl) ?_
        refine lv_iconst (v := 2) X.1 X.2.1 dL_law_311 (by decide) ?_
        refine lv_iadd X.1 X.2.1 dL_law_312 ?_
        refine va_sld X.1 X.2.1 hX hbl hbA hW.2.1 (hin 2 (by omega)) dL_law_313 ?_
        refine zl_bothI (ze_runV (As := [.int (xs (nI (7 * j) + 1).toNatClampNeg), .int (xs (nI (7 * j) + 2).toNatClampNeg)]) (rest := []) X 6 45 (c_X6_size l D B n z1 h1) vX6_size kml_L_45 hW z1 rfl rfl ⟨by decide, by decide⟩ rfl hl.1 rfl (Nat.le_of_ble_eq_true rfl) ⟨by show _ + 0 ≤ (600000 : Nat); omega, by show _ + 0 ≤ (7302250 : Nat); omega⟩ dL_law_314) hW hV z3 z5 (fun H locs hW2 hV2 => ?_)
        replace hW := hW2
        replace hV := hV2
        obtain ⟨y1, y2, y3, y4, y5⟩ := hst.2.1 _ _ _ _ _ _ _ _ hS1
        refine lv_aload_n X.1 X.2.1 dL_law_317 rfl (lv_at hl 2 rfl) ?_
        refine lv_aload_n X.1 X.2.1 dL_law_318 rfl (lv_at hl 0 rfl) ?_
        refine lv_iload_n X.1 X.2.1 dL_law_319 rfl (lv_at hl 3 rfl) ?_
        refine lv_iconst (v := 1) X.1 X.2.1 dL_law_320 (by decide) ?_
        refine lv_iadd X.1 X.2.1 dL_law_321 ?_
        refine va_sld X.1 X.2.1 hX hbl hbA hW.2.1 (hin 1 (by omega)) dL_law_322 ?_
        refine lv_aload_n X.1 X.2.1 dL_law_323 rfl (lv_at hl 0 rfl) ?_
        refine lv_iload_n X.1 X.2.1 dL_law_324 rfl (lv_at hl 3 rfl) ?_
        refine lv_iconst (v := 2) X.1 X.2.1 dL_law_325 (by decide) ?_
        refine lv_iadd X.1 X.2.1 dL_law_326 ?_
        refine va_sld X.1 X.2.1 hX hbl hbA hW.2.1 (hin 2 (by omega)) dL_law_327 ?_
        refine zl_bothI (ze_runV (As := [.int (xs (nI (7 * j) + 1).toNatClampNeg), .int (xs (nI (7 * j) + 2).toNatClampNeg)]) (rest := [.int r]) X 7 48 (c_X7_size l D B n z2 h2) vX7_size kml_L_48 hV z2 rfl rfl ⟨by decide, by decide⟩ rfl hl.1 rfl (Nat.le_of_ble_eq_true rfl) ⟨by show _ + 0 ≤ (600000 : Nat); (try dsimp only); omega, by show _ + 0 ≤ (7302250 : Nat); (try dsimp only); omega⟩ dL_law_328) hV hW (fun b => (y3 b).symm) y4 (fun H locs hV2 hW2 => ?_)
        replace hW := hW2
        replace hV := hV2
        refine lv_icmp_eq (tgt := 828) X.1 X.2.1 dL_law_331 (by decide) (fun _ => ?_) (fun c => absurd rfl c)
        exact back _ _ _ _ _ _ _ _ _ _ _ _ hS1 hW hV (by (try dsimp only); omega) (by (try dsimp only); omega) hl
      by_cases q8 : y = 8
      · refine lv_tableIn (tgt := 336) X.1 X.2.1 dL_law_33 (by rw [q8]; decide) (by rw [q8]; decide) (by rw [q8]; rfl) (by decide) ?_
        obtain ⟨r, n1, K1, I1, R1, J1, h1, h2, hS1⟩ := (hst.2.2.2.2.2.2.2.2.2.2.1) k K I R n KM J RM (xs (nI (7 * j) + 1).toNatClampNeg) (xs (nI (7 * j) + 2).toNatClampNeg) (xs (nI (7 * j) + 3).toNatClampNeg) hSim
        obtain ⟨z1, z2, z3, z4, z5⟩ := hst.2.1 _ _ _ _ _ _ _ _ hSim
        refine lv_aload_n X.1 X.2.1 dL_law_336 rfl (lv_at hl 1 rfl) ?_
        refine lv_aload_n X.1 X.2.1 dL_law_337 rfl (lv_at hl 0 rfl) ?_
        refine lv_iload_n X.1 X.2.1 dL_law_338 rfl (lv_at hl 3 rfl) ?_
        refine lv_iconst (v := 1) X.1 X.2.1 dL_law_339 (by decide) ?_
        refine lv_iadd X.1 X.2.1 dL_law_340 ?_
        refine va_sld X.1 X.2.1 hX hbl hbA hW.2.1 (hin 1 (by omega)) dL_law_341 ?_
        refine lv_aload_n X.1 X.2.1 dL_law_342 rfl (lv_at hl 0 rfl) ?_
        refine lv_iload_n X.1 X.2.1 dL_law_343 rfl (lv_at hl 3 rfl) ?_
        refine lv_iconst (v := 2) X.1 X.2.1 dL_law_344 (by decide) ?_
        refine lv_iadd X.1 X.2.1 dL_law_345 ?_
        refine va_sld X.1 X.2.1 hX hbl hbA hW.2.1 (hin 2 (by omega)) dL_law_346 ?_
        refine lv_aload_n X.1 X.2.1 dL_law_347 rfl (lv_at hl 0 rfl) ?_
        refine lv_iload_n X.1 X.2.1 dL_law_348 rfl (lv_at hl 3 rfl) ?_
        refine lv_iconst (v := 3) X.1 X.2.1 dL_law_349 (by decide) ?_
        refine lv_iadd X.1 X.2.1 dL_law_350 ?_
        refine va_sld X.1 X.2.1 hX hbl hbA hW.2.1 (hin 3 (by omega)) dL_law_351 ?_
        refine zl_bothI (ze_runV (As := [.int (xs (nI (7 * j) + 1).toNatClampNeg), .int (xs (nI (7 * j) + 2).toNatClampNeg), .int (xs (nI (7 * j) + 3).toNatClampNeg)]) (rest := []) X 6 49 (c_X6_join l D B n h1) vX6_join kml_L_49 hW z1 rfl rfl ⟨by decide, by decide⟩ rfl hl.1 rfl (Nat.le_of_ble_eq_true rfl) ⟨by show _ + 4 ≤ (600000 : Nat); omega, by show _ + 100 ≤ (7302250 : Nat); omega⟩ dL_law_352) hW hV z3 z5 (fun H locs hW2 hV2 => ?_)
        replace hW := hW2
        replace hV := hV2
        obtain ⟨y1, y2, y3, y4, y5⟩ := hst.2.1 _ _ _ _ _ _ _ _ hS1
        refine lv_aload_n X.1 X.2.1 dL_law_355 rfl (lv_at hl 2 rfl) ?_
        refine lv_aload_n X.1 X.2.1 dL_law_356 rfl (lv_at hl 0 rfl) ?_
        refine lv_iload_n X.1 X.2.1 dL_law_357 rfl (lv_at hl 3 rfl) ?_
        refine lv_iconst (v := 1) X.1 X.2.1 dL_law_358 (by decide) ?_
        refine lv_iadd X.1 X.2.1 dL_law_359 ?_
        refine va_sld X.1 X.2.1 hX hbl hbA hW.2.1 (hin 1 (by omega)) dL_law_360 ?_
        refine lv_aload_n X.1 X.2.1 dL_law_361 rfl (lv_at hl 0 rfl) ?_
        refine lv_iload_n X.1 X.2.1 dL_law_362 rfl (lv_at hl 3 rfl) ?_
        refine lv_iconst (v := 2) X.1 X.2.1 dL_law_363 (by decide) ?_
        refine lv_iadd X.1 X.2.1 dL_law_364 ?_
        refine va_sld X.1 X.2.1 hX hbl hbA hW.2.1 (hin 2 (by omega)) dL_law_365 ?_
        refine lv_aload_n X.1 X.2.1 dL_law_366 rfl (lv_at hl 0 rfl) ?_
        refine lv_iload_n X.1 X.2.1 dL_law_367 rfl (lv_at hl 3 rfl) ?_
        refine lv_iconst (v := 3) X.1 X.2.1 dL_law_368 (by decide) ?_
        refine lv_iadd X.1 X.2.1 dL_law_369 ?_
        refine va_sld X.1 X.2.1 hX hbl hbA hW.2.1 (hin 3 (by omega)) dL_law_370 ?_
        refine zl_bothI (ze_runV (As := [.int (xs (nI (7 * j) + 1).toNatClampNeg), .int (xs (nI (7 * j) + 2).toNatClampNeg), .int (xs (nI (7 * j) + 3).toNatClampNeg)]) (rest := [.int r]) X 7 52 (c_X7_join l D B n1 z2 h2) vX7_join kml_L_52 hV z2 rfl rfl ⟨by decide, by decide⟩ rfl hl.1 rfl (Nat.le_of_ble_eq_true rfl) ⟨by show _ + 0 ≤ (600000 : Nat); (try dsimp only); omega, by show _ + 0 ≤ (7302250 : Nat); (try dsimp only); omega⟩ dL_law_371) hV hW (fun b => (y3 b).symm) y4 (fun H locs hV2 hW2 => ?_)
        replace hW := hW2
        replace hV := hV2
        refine lv_icmp_eq (tgt := 828) X.1 X.2.1 dL_law_374 (by decide) (fun _ => ?_) (fun c => absurd rfl c)
        exact back _ _ _ _ _ _ _ _ _ _ _ _ hS1 hW hV (by (try dsimp only); omega) (by (try dsimp only); omega) hl
      by_cases q9 : y = 9
      · refine lv_tableIn (tgt := 379) X.1 X.2.1 dL_law_33 (by rw [q9]; decide) (by rw [q9]; decide) (by rw [q9]; rfl) (by decide) ?_
        obtain ⟨r, n1, K1, I1, R1, J1, h1, h2, hS1⟩ := (hst.2.2.2.2.2.2.2.2.2.2.2.1) k K I R n KM J RM (xs (nI (7 * j) + 1).toNatClampNeg) (xs (nI (7 * j) + 2).toNatClampNeg) hSim
        obtain ⟨z1, z2, z3, z4, z5⟩ := hst.2.1 _ _ _ _ _ _ _ _ hSim
        refine lv_aload_n X.1 X.2.1 dL_law_379 rfl (lv_at hl 1 rfl) ?_
        refine lv_aload_n X.1 X.2.1 dL_law_380 rfl (lv_at hl 0 rfl) ?_
        refine lv_iload_n X.1 X.2.1 dL_law_381 rfl (lv_at hl 3 rfl) ?_
        refine lv_iconst (v := 1) X.1 X.2.1 dL_law_382 (by decide) ?_
        refine lv_iadd X.1 X.2.1 dL_law_383 ?_
        refine va_sld X.1 X.2.1 hX hbl hbA hW.2.1 (hin 1 (by omega)) dL_law_384 ?_
        refine lv_aload_n X.1 X.2.1 dL_law_385 rfl (lv_at hl 0 rfl) ?_
        refine lv_iload_n X.1 X.2.1 dL_law_386 rfl (lv_at hl 3 rfl) ?_
        refine lv_iconst (v := 2) X.1 X.2.1 dL_law_387 (by decide) ?_
        refine lv_iadd X.1 X.2.1 dL_law_388 ?_
        refine va_sld X.1 X.2.1 hX hbl hbA hW.2.1 (hin 2 (by omega)) dL_law_389 ?_
        refine zl_bothI (ze_runV (As := [.int (xs (nI (7 * j) + 1).toNatClampNeg), .int (xs (nI (7 * j) + 2).toNatClampNeg)]) (rest := []) X 6 53 (c_X6_joinAll l D B n h1) vX6_joinAll kml_L_53 hW z1 rfl rfl ⟨by decide, by decide⟩ rfl hl.1 rfl (Nat.le_of_ble_eq_true rfl) ⟨by show _ + 36 ≤ (600000 : Nat); omega, by show _ + 900 ≤ (7302250 : Nat); omega⟩ dL_law_390) hW hV z3 z5 (fun H locs hW2 hV2 => ?_)
        replace hW := hW2
        replace hV := hV2
        obtain ⟨y1, y2, y3, y4, y5⟩ := hst.2.1 _ _ _ _ _ _ _ _ hS1
        refine lv_aload_n X.1 X.2.1 dL_law_393 rfl (lv_at hl 2 rfl) ?_
        refine lv_aload_n X.1 X.2.1 dL_law_394 rfl (lv_at hl 0 rfl) ?_
        refine lv_iload_n X.1 X.2.1 dL_law_395 rfl (lv_at hl 3 rfl) ?_
        refine lv_iconst (v := 1) X.1 X.2.1 dL_law_396 (by decide) ?_
        refine lv_iadd X.1 X.2.1 dL_law_397 ?_
        refine va_sld X.1 X.2.1 hX hbl hbA hW.2.1 (hin 1 (by omega)) dL_law_398 ?_
        refine lv_aload_n X.1 X.2.1 dL_law_399 rfl (lv_at hl 0 rfl) ?_
        refine lv_iload_n X.1 X.2.1 dL_law_400 rfl (lv_at hl 3 rfl) ?_
        refine lv_iconst (v := 2) X.1 X.2.1 dL_law_401 (by decide) ?_
        refine lv_iadd X.1 X.2.1 dL_law_402 ?_
        refine va_sld X.1 X.2.1 hX hbl hbA hW.2.1 (hin 2 (by omega)) dL_law_403 ?_
        refine zl_bothI (ze_runV (As := [.int (xs (nI (7 * j) + 1).toNatClampNeg), .int (xs (nI (7 * j) + 2).toNatClampNeg)]) (rest := [.int r]) X 7 56 (c_X7_joinAll l D B n1 z2 h2) vX7_joinAll kml_L_56 hV z2 rfl rfl ⟨by decide, by decide⟩ rfl hl.1 rfl (Nat.le_of_ble_eq_true rfl) ⟨by show _ + 0 ≤ (600000 : Nat); (try dsimp only); omega, by show _ + 0 ≤ (7302250 : Nat); (try dsimp only); omega⟩ dL_law_404) hV hW (fun b => (y3 b).symm) y4 (fun H locs hV2 hW2 => ?_)
        replace hW := hW2
        replace hV := hV2
        refine lv_icmp_eq (tgt := 828) X.1 X.2.1 dL_law_407 (by decide) (fun _ => ?_) (fun c => absurd rfl c)
        exact back _ _ _ _ _ _ _ _ _ _ _ _ hS1 hW hV (by (try dsimp only); omega) (by (try dsimp only); omega) hl
      by_cases q10 : y = 10
      · refine lv_tableIn (tgt := 412) X.1 X.2.1 dL_law_33 (by rw [q10]; decide) (by rw [q10]; decide) (by rw [q10]; rfl) (by decide) ?_
        obtain ⟨r, n1, K1, I1, R1, J1, h1, h2, hS1⟩ := (hst.2.2.2.2.2.2.2.2.2.2.2.2.1) k K I R n KM J RM (xs (nI (7 * j) + 1).toNatClampNeg) (xs (nI (7 * j) + 2).toNatClampNeg) (xs (nI (7 * j) + 3).toNatClampNeg) (xs (nI (7 * j) + 4).toNatClampNeg) hSim
        obtain ⟨z1, z2, z3, z4, z5⟩ := hst.2.1 _ _ _ _ _ _ _ _ hSim
        refine lv_aload_n X.1 X.2.1 dL_law_412 rfl (lv_at hl 1 rfl) ?_
        refine lv_aload_n X.1 X.2.1 dL_law_413 rfl (lv_at hl 0 rfl) ?_
        refine lv_iload_n X.1 X.2.1 dL_law_414 rfl (lv_at hl 3 rfl) ?_
        refine lv_iconst (v := 1) X.1 X.2.1 dL_law_415 (by decide) ?_
        refine lv_iadd X.1 X.2.1 dL_law_416 ?_
        refine va_sld X.1 X.2.1 hX hbl hbA hW.2.1 (hin 1 (by omega)) dL_law_417 ?_
        refine lv_aload_n X.1 X.2.1 dL_law_418 rfl (lv_at hl 0 rfl) ?_
        refine lv_iload_n X.1 X.2.1 dL_law_419 rfl (lv_at hl 3 rfl) ?_
        refine lv_iconst (v := 2) X.1 X.2.1 dL_law_420 (by decide) ?_
        refine lv_iadd X.1 X.2.1 dL_law_421 ?_
        refine va_sld X.1 X.2.1 hX hbl hbA hW.2.1 (hin 2 (by omega)) dL_law_422 ?_
        refine lv_aload_n X.1 X.2.1 dL_law_423 rfl (lv_at hl 0 rfl) ?_
        refine lv_iload_n X.1 X.2.1 dL_law_424 rfl (lv_at hl 3 rfl) ?_
        refine lv_iconst (v := 3) X.1 X.2.1 dL_law_425 (by decide) ?_
        refine lv_iadd X.1 X.2.1 dL_law_426 ?_
        refine va_sld X.1 X.2.1 hX hbl hbA hW.2.1 (hin 3 (by omega)) dL_law_427 ?_
        refine lv_aload_n X.1 X.2.1 dL_law_428 rfl (lv_at hl 0 rfl) ?_
        refine lv_iload_n X.1 X.2.1 dL_law_429 rfl (lv_at hl 3 rfl) ?_
        refine lv_iconst (v := 4) X.1 X.2.1 dL_law_430 (by decide) ?_
        refine lv_iadd X.1 X.2.1 dL_law_431 ?_
        refine va_sld X.1 X.2.1 hX hbl hbA hW.2.1 (hin 4 (by omega)) dL_law_432 ?_
        refine zl_bothI (ze_runV (As := [.int (xs (nI (7 * j) + 1).toNatClampNeg), .int (xs (nI (7 * j) + 2).toNatClampNeg), .int (xs (nI (7 * j) + 3).toNatClampNeg), .int (xs (nI (7 * j) + 4).toNatClampNeg)]) (rest := []) X 6 57 (c_X6_origin l D B n h1) vX6_origin kml_L_57 hW z1 rfl rfl ⟨by decide, by decide⟩ rfl hl.1 rfl (Nat.le_of_ble_eq_true rfl) ⟨by show _ + 4 ≤ (600000 : Nat); omega, by show _ + 100 ≤ (7302250 : Nat); omega⟩ dL_law_433) hW hV z3 z5 (fun H locs hW2 hV2 => ?_)
        replace hW := hW2
        replace hV := hV2
        obtain ⟨y1, y2, y3, y4, y5⟩ := hst.2.1 _ _ _ _ _ _ _ _ hS1
        refine lv_aload_n X.1 X.2.1 dL_law_436 rfl (lv_at hl 2 rfl) ?_
        refine lv_aload_n X.1 X.2.1 dL_law_437 rfl (lv_at hl 0 rfl) ?_
        refine lv_iload_n X.1 X.2.1 dL_law_438 rfl (lv_at hl 3 rfl) ?_
        refine lv_iconst (v := 1) X.1 X.2.1 dL_law_439 (by decide) ?_
        refine lv_iadd X.1 X.2.1 dL_law_440 ?_
        refine va_sld X.1 X.2.1 hX hbl hbA hW.2.1 (hin 1 (by omega)) dL_law_441 ?_
        refine lv_aload_n X.1 X.2.1 dL_law_442 rfl (lv_at hl 0 rfl) ?_
        refine lv_iload_n X.1 X.2.1 dL_law_443 rfl (lv_at hl 3 rfl) ?_
        refine lv_iconst (v := 2) X.1 X.2.1 dL_law_444 (by decide) ?_
        refine lv_iadd X.1 X.2.1 dL_law_445 ?_
        refine va_sld X.1 X.2.1 hX hbl hbA hW.2.1 (hin 2 (by omega)) dL_law_446 ?_
        refine lv_aload_n X.1 X.2.1 dL_law_447 rfl (lv_at hl 0 rfl) ?_
        refine lv_iload_n X.1 X.2.1 dL_law_448 rfl (lv_at hl 3 rfl) ?_
        refine lv_iconst (v := 3) X.1 X.2.1 dL_law_449 (by decide) ?_
        refine lv_iadd X.1 X.2.1 dL_law_450 ?_
        refine va_sld X.1 X.2.1 hX hbl hbA hW.2.1 (hin 3 (by omega)) dL_law_451 ?_
        refine lv_aload_n X.1 X.2.1 dL_law_452 rfl (lv_at hl 0 rfl) ?_
        refine lv_iload_n X.1 X.2.1 dL_law_453 rfl (lv_at hl 3 rfl) ?_
        refine lv_iconst (v := 4) X.1 X.2.1 dL_law_454 (by decide) ?_
        refine lv_iadd X.1 X.2.1 dL_law_455 ?_
        refine va_sld X.1 X.2.1 hX hbl hbA hW.2.1 (hin 4 (by omega)) dL_law_456 ?_
        refine zl_bothI (ze_runV (As := [.int (xs (nI (7 * j) + 1).toNatClampNeg), .int (xs (nI (7 * j) + 2).toNatClampNeg), .int (xs (nI (7 * j) + 3).toNatClampNeg), .int (xs (nI (7 * j) + 4).toNatClampNeg)]) (rest := [.int r]) X 7 61 (c_X7_origin l D B n1 z2 h2) vX7_origin kml_L_61 hV z2 rfl rfl ⟨by decide, by decide⟩ rfl hl.1 rfl (Nat.le_of_ble_eq_true rfl) ⟨by show _ + 0 ≤ (600000 : Nat); (try dsimp only); omega, by show _ + 0 ≤ (7302250 : Nat); (try dsimp only); omega⟩ dL_law_457) hV hW (fun b => (y3 b).symm) y4 (fun H locs hV2 hW2 => ?_)
        replace hW := hW2
        replace hV := hV2
        refine lv_icmp_eq (tgt := 828) X.1 X.2.1 dL_law_460 (by decide) (fun _ => ?_) (fun c => absurd rfl c)
        exact back _ _ _ _ _ _ _ _ _ _ _ _ hS1 hW hV (by (try dsimp only); omega) (by (try dsimp only); omega) hl
      by_cases q11 : y = 11
      · refine lv_tableIn (tgt := 465) X.1 X.2.1 dL_law_33 (by rw [q11]; decide) (by rw [q11]; decide) (by rw [q11]; rfl) (by decide) ?_
        obtain ⟨r, I1, R1, J1, h1, h2, hS1⟩ := (hst.2.2.2.2.2.2.2.2.2.2.2.2.2.1) k K I R n KM J RM (xs (nI (7 * j) + 1).toNatClampNeg) (xs (nI (7 * j) + 2).toNatClampNeg) hSim
        obtain ⟨z1, z2, z3, z4, z5⟩ := hst.2.1 _ _ _ _ _ _ _ _ hSim
        refine lv_aload_n X.1 X.2.1 dL_law_465 rfl (lv_at hl 1 rfl) ?_
        refine lv_aload_n X.1 X.2.1 dL_law_466 rfl (lv_at hl 0 rfl) ?_
        refine lv_iload_n X.1 X.2.1 dL_law_467 rfl (lv_at hl 3 rfl) ?_
        refine lv_iconst (v := 1) X.1 X.2.1 dL_law_468 (by decide) ?_
        refine lv_iadd X.1 X.2.1 dL_law_469 ?_
        refine va_sld X.1 X.2.1 hX hbl hbA hW.2.1 (hin 1 (by omega)) dL_law_470 ?_
        refine lv_aload_n X.1 X.2.1 dL_law_471 rfl (lv_at hl 0 rfl) ?_
        refine lv_iload_n X.1 X.2.1 dL_law_472 rfl (lv_at hl 3 rfl) ?_
        refine lv_iconst (v := 2) X.1 X.2.1 dL_law_473 (by decide) ?_
        refine lv_iadd X.1 X.2.1 dL_law_474 ?_
        refine va_sld X.1 X.2.1 hX hbl hbA hW.2.1 (hin 2 (by omega)) dL_law_475 ?_
        refine zl_bothI (ze_runV (As := [.int (xs (nI (7 * j) + 1).toNatClampNeg), .int (xs (nI (7 * j) + 2).toNatClampNeg)]) (rest := []) X 6 62 (c_X6_covers l D B n z1 h1) vX6_covers kml_L_62 hW z1 rfl rfl ⟨by decide, by decide⟩ rfl hl.1 rfl (Nat.le_of_ble_eq_true rfl) ⟨by show _ + 0 ≤ (600000 : Nat); omega, by show _ + 0 ≤ (7302250 : Nat); omega⟩ dL_law_476) hW hV z3 z5 (fun H locs hW2 hV2 => ?_)
        replace hW := hW2
        replace hV := hV2
        obtain ⟨y1, y2, y3, y4, y5⟩ := hst.2.1 _ _ _ _ _ _ _ _ hS1
        refine lv_aload_n X.1 X.2.1 dL_law_479 rfl (lv_at hl 2 rfl) ?_
        refine lv_aload_n X.1 X.2.1 dL_law_480 rfl (lv_at hl 0 rfl) ?_
        refine lv_iload_n X.1 X.2.1 dL_law_481 rfl (lv_at hl 3 rfl) ?_
        refine lv_iconst (v := 1) X.1 X.2.1 dL_law_482 (by decide) ?_
        refine lv_iadd X.1 X.2.1 dL_law_483 ?_
        refine va_sld X.1 X.2.1 hX hbl hbA hW.2.1 (hin 1 (by omega)) dL_law_484 ?_
        refine lv_aload_n X.1 X.2.1 dL_law_485 rfl (lv_at hl 0 rfl) ?_
        refine lv_iload_n X.1 X.2.1 dL_law_486 rfl (lv_at hl 3 rfl) ?_
        refine lv_iconst (v := 2) X.1 X.2.1 dL_law_487 (by decide) ?_
        refine lv_iadd X.1 X.2.1 dL_law_488 ?_
        refine va_sld X.1 X.2.1 hX hbl hbA hW.2.1 (hin 2 (by omega)) dL_law_489 ?_
        refine zl_bothI (ze_runV (As := [.int (xs (nI (7 * j) + 1).toNatClampNeg), .int (xs (nI (7 * j) + 2).toNatClampNeg)]) (rest := [.int r]) X 7 65 (c_X7_covers l D B n z2 h2) vX7_covers kml_L_65 hV z2 rfl rfl ⟨by decide, by decide⟩ rfl hl.1 rfl (Nat.le_of_ble_eq_true rfl) ⟨by show _ + 0 ≤ (600000 : Nat); (try dsimp only); omega, by show _ + 0 ≤ (7302250 : Nat); (try dsimp only); omega⟩ dL_law_490) hV hW (fun b => (y3 b).symm) y4 (fun H locs hV2 hW2 => ?_)
        replace hW := hW2
        replace hV := hV2
        refine lv_icmp_eq (tgt := 828) X.1 X.2.1 dL_law_493 (by decide) (fun _ => ?_) (fun c => absurd rfl c)
        exact back _ _ _ _ _ _ _ _ _ _ _ _ hS1 hW hV (by (try dsimp only); omega) (by (try dsimp only); omega) hl
      by_cases q12 : y = 12
      · refine lv_tableIn (tgt := 498) X.1 X.2.1 dL_law_33 (by rw [q12]; decide) (by rw [q12]; decide) (by rw [q12]; rfl) (by decide) ?_
        obtain ⟨r, I1, R1, J1, h1, h2, hS1⟩ := (hst.2.2.2.2.2.2.2.2.2.2.2.2.2.2.1) k K I R n KM J RM (xs (nI (7 * j) + 1).toNatClampNeg) (xs (nI (7 * j) + 2).toNatClampNeg) (xs (nI (7 * j) + 3).toNatClampNeg) (xs (nI (7 * j) + 4).toNatClampNeg) hSim
        obtain ⟨z1, z2, z3, z4, z5⟩ := hst.2.1 _ _ _ _ _ _ _ _ hSim
        refine lv_aload_n X.1 X.2.1 dL_law_498 rfl (lv_at hl 1 rfl) ?_
        refine lv_aload_n X.1 X.2.1 dL_law_499 rfl (lv_at hl 0 rfl) ?_
        refine lv_iload_n X.1 X.2.1 dL_law_500 rfl (lv_at hl 3 rfl) ?_
        refine lv_iconst (v := 1) X.1 X.2.1 dL_law_501 (by decide) ?_
        refine lv_iadd X.1 X.2.1 dL_law_502 ?_
        refine va_sld X.1 X.2.1 hX hbl hbA hW.2.1 (hin 1 (by omega)) dL_law_503 ?_
        refine lv_aload_n X.1 X.2.1 dL_law_504 rfl (lv_at hl 0 rfl) ?_
        refine lv_iload_n X.1 X.2.1 dL_law_505 rfl (lv_at hl 3 rfl) ?_
        refine lv_iconst (v := 2) X.1 X.2.1 dL_law_506 (by decide) ?_
        refine lv_iadd X.1 X.2.1 dL_law_507 ?_
        refine va_sld X.1 X.2.1 hX hbl hbA hW.2.1 (hin 2 (by omega)) dL_law_508 ?_
        refine lv_aload_n X.1 X.2.1 dL_law_509 rfl (lv_at hl 0 rfl) ?_
        refine lv_iload_n X.1 X.2.1 dL_law_510 rfl (lv_at hl 3 rfl) ?_
        refine lv_iconst (v := 3) X.1 X.2.1 dL_law_511 (by decide) ?_
        refine lv_iadd X.1 X.2.1 dL_law_512 ?_
        refine va_sld X.1 X.2.1 hX hbl hbA hW.2.1 (hin 3 (by omega)) dL_law_513 ?_
        refine lv_aload_n X.1 X.2.1 dL_law_514 rfl (lv_at hl 0 rfl) ?_
        refine lv_iload_n X.1 X.2.1 dL_law_515 rfl (lv_at hl 3 rfl) ?_
        refine lv_iconst (v := 4) X.1 X.2.1 dL_law_516 (by decide) ?_
        refine lv_iadd X.1 X.2.1 dL_law_517 ?_
        refine va_sld X.1 X.2.1 hX hbl hbA hW.2.1 (hin 4 (by omega)) dL_law_518 ?_
        refine zl_bothI (ze_runV (As := [.int (xs (nI (7 * j) + 1).toNatClampNeg), .int (xs (nI (7 * j) + 2).toNatClampNeg), .int (xs (nI (7 * j) + 3).toNatClampNeg), .int (xs (nI (7 * j) + 4).toNatClampNeg)]) (rest := []) X 6 66 (c_X6_filled l D B n z1 h1) vX6_filled kml_L_66 hW z1 rfl rfl ⟨by decide, by decide⟩ rfl hl.1 rfl (Nat.le_of_ble_eq_true rfl) ⟨by show _ + 0 ≤ (600000 : Nat); omega, by show _ + 0 ≤ (7302250 : Nat); omega⟩ dL_law_519) hW hV z3 z5 (fun H locs hW2 hV2 => ?_)
        replace hW := hW2
        replace hV := hV2
        obtain ⟨y1, y2, y3, y4, y5⟩ := hst.2.1 _ _ _ _ _ _ _ _ hS1
        refine lv_aload_n X.1 X.2.1 dL_law_522 rfl (lv_at hl 2 rfl) ?_
        refine lv_aload_n X.1 X.2.1 dL_law_523 rfl (lv_at hl 0 rfl) ?_
        refine lv_iload_n X.1 X.2.1 dL_law_524 rfl (lv_at hl 3 rfl) ?_
        refine lv_iconst (v := 1) X.1 X.2.1 dL_law_525 (by decide) ?_
        refine lv_iadd X.1 X.2.1 dL_law_526 ?_
        refine va_sld X.1 X.2.1 hX hbl hbA hW.2.1 (hin 1 (by omega)) dL_law_527 ?_
        refine lv_aload_n X.1 X.2.1 dL_law_528 rfl (lv_at hl 0 rfl) ?_
        refine lv_iload_n X.1 X.2.1 dL_law_529 rfl (lv_at hl 3 rfl) ?_
        refine lv_iconst (v := 2) X.1 X.2.1 dL_law_530 (by decide) ?_
        refine lv_iadd X.1 X.2.1 dL_law_531 ?_
        refine va_sld X.1 X.2.1 hX hbl hbA hW.2.1 (hin 2 (by omega)) dL_law_532 ?_
        refine lv_aload_n X.1 X.2.1 dL_law_533 rfl (lv_at hl 0 rfl) ?_
        refine lv_iload_n X.1 X.2.1 dL_law_534 rfl (lv_at hl 3 rfl) ?_
        refine lv_iconst (v := 3) X.1 X.2.1 dL_law_535 (by decide) ?_
        refine lv_iadd X.1 X.2.1 dL_law_536 ?_
        refine va_sld X.1 X.2.1 hX hbl hbA hW.2.1 (hin 3 (by omega)) dL_law_537 ?_
        refine lv_aload_n X.1 X.2.1 dL_law_538 rfl (lv_at hl 0 rfl) ?_
        refine lv_iload_n X.1 X.2.1 dL_law_539 rfl (lv_at hl 3 rfl) ?_
        refine lv_iconst (v := 4) X.1 X.2.1 dL_law_540 (by decide) ?_
        refine lv_iadd X.1 X.2.1 dL_law_541 ?_
        refine va_sld X.1 X.2.1 hX hbl hbA hW.2.1 (hin 4 (by omega)) dL_law_542 ?_
        refine zl_bothI (ze_runV (As := [.int (xs (nI (7 * j) + 1).toNatClampNeg), .int (xs (nI (7 * j) + 2).toNatClampNeg), .int (xs (nI (7 * j) + 3).toNatClampNeg), .int (xs (nI (7 * j) + 4).toNatClampNeg)]) (rest := [.int r]) X 7 69 (c_X7_filled l D B n z2 h2) vX7_filled kml_L_69 hV z2 rfl rfl ⟨by decide, by decide⟩ rfl hl.1 rfl (Nat.le_of_ble_eq_true rfl) ⟨by show _ + 0 ≤ (600000 : Nat); (try dsimp only); omega, by show _ + 0 ≤ (7302250 : Nat); (try dsimp only); omega⟩ dL_law_543) hV hW (fun b => (y3 b).symm) y4 (fun H locs hV2 hW2 => ?_)
        replace hW := hW2
        replace hV := hV2
        refine lv_icmp_eq (tgt := 828) X.1 X.2.1 dL_law_546 (by decide) (fun _ => ?_) (fun c => absurd rfl c)
        exact back _ _ _ _ _ _ _ _ _ _ _ _ hS1 hW hV (by (try dsimp only); omega) (by (try dsimp only); omega) hl
      by_cases q13 : y = 13
      · refine lv_tableIn (tgt := 551) X.1 X.2.1 dL_law_33 (by rw [q13]; decide) (by rw [q13]; decide) (by rw [q13]; rfl) (by decide) ?_
        obtain ⟨r, I1, R1, J1, h1, h2, hS1⟩ := (hst.2.2.2.2.2.2.2.2.2.2.2.2.2.2.2.1) k K I R n KM J RM (xs (nI (7 * j) + 1).toNatClampNeg) (xs (nI (7 * j) + 2).toNatClampNeg) hSim
        obtain ⟨z1, z2, z3, z4, z5⟩ := hst.2.1 _ _ _ _ _ _ _ _ hSim
        refine lv_aload_n X.1 X.2.1 dL_law_551 rfl (lv_at hl 1 rfl) ?_
        refine lv_aload_n X.1 X.2.1 dL_law_552 rfl (lv_at hl 0 rfl) ?_
        refine lv_iload_n X.1 X.2.1 dL_law_553 rfl (lv_at hl 3 rfl) ?_
        refine lv_iconst (v := 1) X.1 X.2.1 dL_law_554 (by decide) ?_
        refine lv_iadd X.1 X.2.1 dL_law_555 ?_
        refine va_sld X.1 X.2.1 hX hbl hbA hW.2.1 (hin 1 (by omega)) dL_law_556 ?_
        refine lv_aload_n X.1 X.2.1 dL_law_557 rfl (lv_at hl 0 rfl) ?_
        refine lv_iload_n X.1 X.2.1 dL_law_558 rfl (lv_at hl 3 rfl) ?_
        refine lv_iconst (v := 2) X.1 X.2.1 dL_law_559 (by decide) ?_
        refine lv_iadd X.1 X.2.1 dL_law_560 ?_
        refine va_sld X.1 X.2.1 hX hbl hbA hW.2.1 (hin 2 (by omega)) dL_law_561 ?_
        refine zl_bothI (ze_runV (As := [.int (xs (nI (7 * j) + 1).toNatClampNeg), .int (xs (nI (7 * j) + 2).toNatClampNeg)]) (rest := []) X 6 70 (c_X6_compare l D B n z1 h1) vX6_compare kml_L_70 hW z1 rfl rfl ⟨by decide, by decide⟩ rfl hl.1 rfl (Nat.le_of_ble_eq_true rfl) ⟨by show _ + 0 ≤ (600000 : Nat); omega, by show _ + 0 ≤ (7302250 : Nat); omega⟩ dL_law_562) hW hV z3 z5 (fun H locs hW2 hV2 => ?_)
        replace hW := hW2
        replace hV := hV2
        obtain ⟨y1, y2, y3, y4, y5⟩ := hst.2.1 _ _ _ _ _ _ _ _ hS1
        refine lv_aload_n X.1 X.2.1 dL_law_565 rfl (lv_at hl 2 rfl) ?_
        refine lv_aload_n X.1 X.2.1 dL_law_566 rfl (lv_at hl 0 rfl) ?_
        refine lv_iload_n X.1 X.2.1 dL_law_567 rfl (lv_at hl 3 rfl) ?_
        refine lv_iconst (v := 1) X.1 X.2.1 dL_law_568 (by decide) ?_
        refine lv_iadd X.1 X.2.1 dL_law_569 ?_
        refine va_sld X.1 X.2.1 hX hbl hbA hW.2.1 (hin 1 (by omega)) dL_law_570 ?_
        refine lv_aload_n X.1 X.2.1 dL_law_571 rfl (lv_at hl 0 rfl) ?_
        refine lv_iload_n X.1 X.2.1 dL_law_572 rfl (lv_at hl 3 rfl) ?_
        refine lv_iconst (v := 2) X.1 X.2.1 dL_law_573 (by decide) ?_
        refine lv_iadd X.1 X.2.1 dL_law_574 ?_
        refine va_sld X.1 X.2.1 hX hbl hbA hW.2.1 (hin 2 (by omega)) dL_law_575 ?_
        refine zl_bothI (ze_runV (As := [.int (xs (nI (7 * j) + 1).toNatClampNeg), .int (xs (nI (7 * j) + 2).toNatClampNeg)]) (rest := [.int r]) X 7 73 (c_X7_compare l D B n z2 h2) vX7_compare kml_L_73 hV z2 rfl rfl ⟨by decide, by decide⟩ rfl hl.1 rfl (Nat.le_of_ble_eq_true rfl) ⟨by show _ + 0 ≤ (600000 : Nat); (try dsimp only); omega, by show _ + 0 ≤ (7302250 : Nat); (try dsimp only); omega⟩ dL_law_576) hV hW (fun b => (y3 b).symm) y4 (fun H locs hV2 hW2 => ?_)
        replace hW := hW2
        replace hV := hV2
        refine lv_icmp_eq (tgt := 828) X.1 X.2.1 dL_law_579 (by decide) (fun _ => ?_) (fun c => absurd rfl c)
        exact back _ _ _ _ _ _ _ _ _ _ _ _ hS1 hW hV (by (try dsimp only); omega) (by (try dsimp only); omega) hl
      by_cases q14 : y = 14
      · refine lv_tableIn (tgt := 584) X.1 X.2.1 dL_law_33 (by rw [q14]; decide) (by rw [q14]; decide) (by rw [q14]; rfl) (by decide) ?_
        obtain ⟨r, I1, R1, J1, h1, h2, hS1⟩ := (hst.2.2.2.2.2.2.2.2.2.2.2.2.2.2.2.2.1) k K I R n KM J RM (xs (nI (7 * j) + 1).toNatClampNeg) hSim
        obtain ⟨z1, z2, z3, z4, z5⟩ := hst.2.1 _ _ _ _ _ _ _ _ hSim
        refine lv_aload_n X.1 X.2.1 dL_law_584 rfl (lv_at hl 1 rfl) ?_
        refine lv_aload_n X.1 X.2.1 dL_law_585 rfl (lv_at hl 0 rfl) ?_
        refine lv_iload_n X.1 X.2.1 dL_law_586 rfl (lv_at hl 3 rfl) ?_
        refine lv_iconst (v := 1) X.1 X.2.1 dL_law_587 (by decide) ?_
        refine lv_iadd X.1 X.2.1 dL_law_588 ?_
        refine va_sld X.1 X.2.1 hX hbl hbA hW.2.1 (hin 1 (by omega)) dL_law_589 ?_
        refine zl_bothI (ze_runV (As := [.int (xs (nI (7 * j) + 1).toNatClampNeg)]) (rest := []) X 6 74 (c_X6_covered l D B n z1 h1) vX6_covered kml_L_74 hW z1 rfl rfl ⟨by decide, by decide⟩ rfl hl.1 rfl (Nat.le_of_ble_eq_true rfl) ⟨by show _ + 0 ≤ (600000 : Nat); omega, by show _ + 0 ≤ (7302250 : Nat); omega⟩ dL_law_590) hW hV z3 z5 (fun H locs hW2 hV2 => ?_)
        replace hW := hW2
        replace hV := hV2
        obtain ⟨y1, y2, y3, y4, y5⟩ := hst.2.1 _ _ _ _ _ _ _ _ hS1
        refine lv_aload_n X.1 X.2.1 dL_law_593 rfl (lv_at hl 2 rfl) ?_
        refine lv_aload_n X.1 X.2.1 dL_law_594 rfl (lv_at hl 0 rfl) ?_
        refine lv_iload_n X.1 X.2.1 dL_law_595 rfl (lv_at hl 3 rfl) ?_
        refine lv_iconst (v := 1) X.1 X.2.1 dL_law_596 (by decide) ?_
        refine lv_iadd X.1 X.2.1 dL_law_597 ?_
        refine va_sld X.1 X.2.1 hX hbl hbA hW.2.1 (hin 1 (by omega)) dL_law_598 ?_
        refine zl_bothI (ze_runV (As := [.int (xs (nI (7 * j) + 1).toNatClampNeg)]) (rest := [.int r]) X 7 77 (c_X7_covered l D B n z2 h2) vX7_covered kml_L_77 hV z2 rfl rfl ⟨by decide, by decide⟩ rfl hl.1 rfl (Nat.le_of_ble_eq_true rfl) ⟨by show _ + 0 ≤ (600000 : Nat); (try dsimp only); omega, by show _ + 0 ≤ (7302250 : Nat); (try dsimp only); omega⟩ dL_law_599) hV hW (fun b => (y3 b).symm) y4 (fun H locs hV2 hW2 => ?_)
        replace hW := hW2
        replace hV := hV2
        refine lv_icmp_eq (tgt := 828) X.1 X.2.1 dL_law_602 (by decide) (fun _ => ?_) (fun c => absurd rfl c)
        exact back _ _ _ _ _ _ _ _ _ _ _ _ hS1 hW hV (by (try dsimp only); omega) (by (try dsimp only); omega) hl
      by_cases q15 : y = 15
      · refine lv_tableIn (tgt := 607) X.1 X.2.1 dL_law_33 (by rw [q15]; decide) (by rw [q15]; decide) (by rw [q15]; rfl) (by decide) ?_
        obtain ⟨r, I1, R1, J1, h1, h2, hS1⟩ := (hst.2.2.2.2.2.2.2.2.2.2.2.2.2.2.2.2.2.1) k K I R n KM J RM (xs (nI (7 * j) + 1).toNatClampNeg) (xs (nI (7 * j) + 2).toNatClampNeg) (xs (nI (7 * j) + 3).toNatClampNeg) hSim
        obtain ⟨z1, z2, z3, z4, z5⟩ := hst.2.1 _ _ _ _ _ _ _ _ hSim
        refine lv_aload_n X.1 X.2.1 dL_law_607 rfl (lv_at hl 1 rfl) ?_
        refine lv_aload_n X.1 X.2.1 dL_law_608 rfl (lv_at hl 0 rfl) ?_
        refine lv_iload_n X.1 X.2.1 dL_law_609 rfl (lv_at hl 3 rfl) ?_
        refine lv_iconst (v := 1) X.1 X.2.1 dL_law_610 (by decide) ?_
        refine lv_iadd X.1 X.2.1 dL_law_611 ?_
        refine va_sld X.1 X.2.1 hX hbl hbA hW.2.1 (hin 1 (by omega)) dL_law_612 ?_
        refine lv_aload_n X.1 X.2.1 dL_law_613 rfl (lv_at hl 0 rfl) ?_
        refine lv_iload_n X.1 X.2.1 dL_law_614 rfl (lv_at hl 3 rfl) ?_
        refine lv_iconst (v := 2) X.1 X.2.1 dL_law_615 (by decide) ?_
        refine lv_iadd X.1 X.2.1 dL_law_616 ?_
        refine va_sld X.1 X.2.1 hX hbl hbA hW.2.1 (hin 2 (by omega)) dL_law_617 ?_
        refine lv_aload_n X.1 X.2.1 dL_law_618 rfl (lv_at hl 0 rfl) ?_
        refine lv_iload_n X.1 X.2.1 dL_law_619 rfl (lv_at hl 3 rfl) ?_
        refine lv_iconst (v := 3) X.1 X.2.1 dL_law_620 (by decide) ?_
        refine lv_iadd X.1 X.2.1 dL_law_621 ?_
        refine va_sld X.1 X.2.1 hX hbl hbA hW.2.1 (hin 3 (by omega)) dL_law_622 ?_
        refine zl_bothI (ze_runV (As := [.int (xs (nI (7 * j) + 1).toNatClampNeg), .int (xs (nI (7 * j) + 2).toNatClampNeg), .int (xs (nI (7 * j) + 3).toNatClampNeg)]) (rest := []) X 6 78 (c_X6_isLeast l D B n z1 h1) vX6_isLeast kml_L_78 hW z1 rfl rfl ⟨by decide, by decide⟩ rfl hl.1 rfl (Nat.le_of_ble_eq_true rfl) ⟨by show _ + 0 ≤ (600000 : Nat); omega, by show _ + 0 ≤ (7302250 : Nat); omega⟩ dL_law_623) hW hV z3 z5 (fun H locs hW2 hV2 => ?_)
        replace hW := hW2
        replace hV := hV2
        obtain ⟨y1, y2, y3, y4, y5⟩ := hst.2.1 _ _ _ _ _ _ _ _ hS1
        refine lv_aload_n X.1 X.2.1 dL_law_626 rfl (lv_at hl 2 rfl) ?_
        refine lv_aload_n X.1 X.2.1 dL_law_627 rfl (lv_at hl 0 rfl) ?_
        refine lv_iload_n X.1 X.2.1 dL_law_628 rfl (lv_at hl 3 rfl) ?_
        refine lv_iconst (v := 1) X.1 X.2.1 dL_law_629 (by decide) ?_
        refine lv_iadd X.1 X.2.1 dL_law_630 ?_
        refine va_sld X.1 X.2.1 hX hbl hbA hW.2.1 (hin 1 (by omega)) dL_law_631 ?_
        refine lv_aload_n X.1 X.2.1 dL_law_632 rfl (lv_at hl 0 rfl) ?_
        refine lv_iload_n X.1 X.2.1 dL_law_633 rfl (lv_at hl 3 rfl) ?_
        refine lv_iconst (v := 2) X.1 X.2.1 dL_law_634 (by decide) ?_
        refine lv_iadd X.1 X.2.1 dL_law_635 ?_
        refine va_sld X.1 X.2.1 hX hbl hbA hW.2.1 (hin 2 (by omega)) dL_law_636 ?_
        refine lv_aload_n X.1 X.2.1 dL_law_637 rfl (lv_at hl 0 rfl) ?_
        refine lv_iload_n X.1 X.2.1 dL_law_638 rfl (lv_at hl 3 rfl) ?_
        refine lv_iconst (v := 3) X.1 X.2.1 dL_law_639 (by decide) ?_
        refine lv_iadd X.1 X.2.1 dL_law_640 ?_
        refine va_sld X.1 X.2.1 hX hbl hbA hW.2.1 (hin 3 (by omega)) dL_law_641 ?_
        refine zl_bothI (ze_runV (As := [.int (xs (nI (7 * j) + 1).toNatClampNeg), .int (xs (nI (7 * j) + 2).toNatClampNeg), .int (xs (nI (7 * j) + 3).toNatClampNeg)]) (rest := [.int r]) X 7 81 (c_X7_isLeast l D B n z2 h2) vX7_isLeast kml_L_81 hV z2 rfl rfl ⟨by decide, by decide⟩ rfl hl.1 rfl (Nat.le_of_ble_eq_true rfl) ⟨by show _ + 0 ≤ (600000 : Nat); (try dsimp only); omega, by show _ + 0 ≤ (7302250 : Nat); (try dsimp only); omega⟩ dL_law_642) hV hW (fun b => (y3 b).symm) y4 (fun H locs hV2 hW2 => ?_)
        replace hW := hW2
        replace hV := hV2
        refine lv_icmp_eq (tgt := 828) X.1 X.2.1 dL_law_645 (by decide) (fun _ => ?_) (fun c => absurd rfl c)
        exact back _ _ _ _ _ _ _ _ _ _ _ _ hS1 hW hV (by (try dsimp only); omega) (by (try dsimp only); omega) hl
      by_cases q16 : y = 16
      · refine lv_tableIn (tgt := 650) X.1 X.2.1 dL_law_33 (by rw [q16]; decide) (by rw [q16]; decide) (by rw [q16]; rfl) (by decide) ?_
        obtain ⟨r, n1, K1, I1, R1, J1, h1, h2, hS1⟩ := (hst.2.2.2.2.2.2.2.2.2.2.2.2.2.2.2.2.2.2.1) k K I R n KM J RM (xs (nI (7 * j) + 1).toNatClampNeg) (xs (nI (7 * j) + 2).toNatClampNeg) (xs (nI (7 * j) + 3).toNatClampNeg) (xs (nI (7 * j) + 4).toNatClampNeg) (xs (nI (7 * j) + 5).toNatClampNeg) (xs (nI (7 * j) + 6).toNatClampNeg) hSim
        obtain ⟨z1, z2, z3, z4, z5⟩ := hst.2.1 _ _ _ _ _ _ _ _ hSim
        refine lv_aload_n X.1 X.2.1 dL_law_650 rfl (lv_at hl 1 rfl) ?_
        refine lv_aload_n X.1 X.2.1 dL_law_651 rfl (lv_at hl 0 rfl) ?_
        refine lv_iload_n X.1 X.2.1 dL_law_652 rfl (lv_at hl 3 rfl) ?_
        refine lv_iconst (v := 1) X.1 X.2.1 dL_law_653 (by decide) ?_
        refine lv_iadd X.1 X.2.1 dL_law_654 ?_
        refine va_sld X.1 X.2.1 hX hbl hbA hW.2.1 (hin 1 (by omega)) dL_law_655 ?_
        refine lv_aload_n X.1 X.2.1 dL_law_656 rfl (lv_at hl 0 rfl) ?_
        refine lv_iload_n X.1 X.2.1 dL_law_657 rfl (lv_at hl 3 rfl) ?_
        refine lv_iconst (v := 2) X.1 X.2.1 dL_law_658 (by decide) ?_
        refine lv_iadd X.1 X.2.1 dL_law_659 ?_
        refine va_sld X.1 X.2.1 hX hbl hbA hW.2.1 (hin 2 (by omega)) dL_law_660 ?_
        refine lv_aload_n X.1 X.2.1 dL_law_661 rfl (lv_at hl 0 rfl) ?_
        refine lv_iload_n X.1 X.2.1 dL_law_662 rfl (lv_at hl 3 rfl) ?_
        refine lv_iconst (v := 3) X.1 X.2.1 dL_law_663 (by decide) ?_
        refine lv_iadd X.1 X.2.1 dL_law_664 ?_
        refine va_sld X.1 X.2.1 hX hbl hbA hW.2.1 (hin 3 (by omega)) dL_law_665 ?_
        refine lv_aload_n X.1 X.2.1 dL_law_666 rfl (lv_at hl 0 rfl) ?_
        refine lv_iload_n X.1 X.2.1 dL_law_667 rfl (lv_at hl 3 rfl) ?_
        refine lv_iconst (v := 4) X.1 X.2.1 dL_law_668 (by decide) ?_
        refine lv_iadd X.1 X.2.1 dL_law_669 ?_
        refine va_sld X.1 X.2.1 hX hbl hbA hW.2.1 (hin 4 (by omega)) dL_law_670 ?_
        refine lv_aload_n X.1 X.2.1 dL_law_671 rfl (lv_at hl 0 rfl) ?_
        refine lv_iload_n X.1 X.2.1 dL_law_672 rfl (lv_at hl 3 rfl) ?_
        refine lv_iconst (v := 5) X.1 X.2.1 dL_law_673 (by decide) ?_
        refine lv_iadd X.1 X.2.1 dL_law_674 ?_
        refine va_sld X.1 X.2.1 hX hbl hbA hW.2.1 (hin 5 (by omega)) dL_law_675 ?_
        refine lv_aload_n X.1 X.2.1 dL_law_676 rfl (lv_at hl 0 rfl) ?_
        refine lv_iload_n X.1 X.2.1 dL_law_677 rfl (lv_at hl 3 rfl) ?_
        refine lv_bipush (v := 6) X.1 X.2.1 dL_law_678 (by decide) ?_
        refine lv_iadd X.1 X.2.1 dL_law_680 ?_
        refine va_sld X.1 X.2.1 hX hbl hbA hW.2.1 (hin 6 (by omega)) dL_law_681 ?_
        refine zl_bothI (ze_runV (As := [.int (xs (nI (7 * j) + 1).toNatClampNeg), .int (xs (nI (7 * j) + 2).toNatClampNeg), .int (xs (nI (7 * j) + 3).toNatClampNeg), .int (xs (nI (7 * j) + 4).toNatClampNeg), .int (xs (nI (7 * j) + 5).toNatClampNeg), .int (xs (nI (7 * j) + 6).toNatClampNeg)]) (rest := []) X 6 82 (c_X6_learn l D B n h1) vX6_learn kml_L_82 hW z1 rfl rfl ⟨by decide, by decide⟩ rfl hl.1 rfl (Nat.le_of_ble_eq_true rfl) ⟨by show _ + 8 ≤ (600000 : Nat); omega, by show _ + 200 ≤ (7302250 : Nat); omega⟩ dL_law_682) hW hV z3 z5 (fun H locs hW2 hV2 => ?_)
        replace hW := hW2
        replace hV := hV2
        obtain ⟨y1, y2, y3, y4, y5⟩ := hst.2.1 _ _ _ _ _ _ _ _ hS1
        refine lv_aload_n X.1 X.2.1 dL_law_685 rfl (lv_at hl 2 rfl) ?_
        refine lv_aload_n X.1 X.2.1 dL_law_686 rfl (lv_at hl 0 rfl) ?_
        refine lv_iload_n X.1 X.2.1 dL_law_687 rfl (lv_at hl 3 rfl) ?_
        refine lv_iconst (v := 1) X.1 X.2.1 dL_law_688 (by decide) ?_
        refine lv_iadd X.1 X.2.1 dL_law_689 ?_
        refine va_sld X.1 X.2.1 hX hbl hbA hW.2.1 (hin 1 (by omega)) dL_law_690 ?_
        refine lv_aload_n X.1 X.2.1 dL_law_691 rfl (lv_at hl 0 rfl) ?_
        refine lv_iload_n X.1 X.2.1 dL_law_692 rfl (lv_at hl 3 rfl) ?_
        refine lv_iconst (v := 2) X.1 X.2.1 dL_law_693 (by decide) ?_
        refine lv_iadd X.1 X.2.1 dL_law_694 ?_
        refine va_sld X.1 X.2.1 hX hbl hbA hW.2.1 (hin 2 (by omega)) dL_law_695 ?_
        refine lv_aload_n X.1 X.2.1 dL_law_696 rfl (lv_at hl 0 rfl) ?_
        refine lv_iload_n X.1 X.2.1 dL_law_697 rfl (lv_at hl 3 rfl) ?_
        refine lv_iconst (v := 3) X.1 X.2.1 dL_law_698 (by decide) ?_
        refine lv_iadd X.1 X.2.1 dL_law_699 ?_
        refine va_sld X.1 X.2.1 hX hbl hbA hW.2.1 (hin 3 (by omega)) dL_law_700 ?_
        refine lv_aload_n X.1 X.2.1 dL_law_701 rfl (lv_at hl 0 rfl) ?_
        refine lv_iload_n X.1 X.2.1 dL_law_702 rfl (lv_at hl 3 rfl) ?_
        refine lv_iconst (v := 4) X.1 X.2.1 dL_law_703 (by decide) ?_
        refine lv_iadd X.1 X.2.1 dL_law_704 ?_
        refine va_sld X.1 X.2.1 hX hbl hbA hW.2.1 (hin 4 (by omega)) dL_law_705 ?_
        refine lv_aload_n X.1 X.2.1 dL_law_706 rfl (lv_at hl 0 rfl) ?_
        refine lv_iload_n X.1 X.2.1 dL_law_707 rfl (lv_at hl 3 rfl) ?_
        refine lv_iconst (v := 5) X.1 X.2.1 dL_law_708 (by decide) ?_
        refine lv_iadd X.1 X.2.1 dL_law_709 ?_
        refine va_sld X.1 X.2.1 hX hbl hbA hW.2.1 (hin 5 (by omega)) dL_law_710 ?_
        refine lv_aload_n X.1 X.2.1 dL_law_711 rfl (lv_at hl 0 rfl) ?_
        refine lv_iload_n X.1 X.2.1 dL_law_712 rfl (lv_at hl 3 rfl) ?_
        refine lv_bipush (v := 6) X.1 X.2.1 dL_law_713 (by decide) ?_
        refine lv_iadd X.1 X.2.1 dL_law_715 ?_
        refine va_sld X.1 X.2.1 hX hbl hbA hW.2.1 (hin 6 (by omega)) dL_law_716 ?_
        refine zl_bothI (ze_runV (As := [.int (xs (nI (7 * j) + 1).toNatClampNeg), .int (xs (nI (7 * j) + 2).toNatClampNeg), .int (xs (nI (7 * j) + 3).toNatClampNeg), .int (xs (nI (7 * j) + 4).toNatClampNeg), .int (xs (nI (7 * j) + 5).toNatClampNeg), .int (xs (nI (7 * j) + 6).toNatClampNeg)]) (rest := [.int r]) X 7 86 (c_X7_learn l D B n1 z2 h2) vX7_learn kml_L_86 hV z2 rfl rfl ⟨by decide, by decide⟩ rfl hl.1 rfl (Nat.le_of_ble_eq_true rfl) ⟨by show _ + 0 ≤ (600000 : Nat); (try dsimp only); omega, by show _ + 0 ≤ (7302250 : Nat); (try dsimp only); omega⟩ dL_law_717) hV hW (fun b => (y3 b).symm) y4 (fun H locs hV2 hW2 => ?_)
        replace hW := hW2
        replace hV := hV2
        refine lv_icmp_eq (tgt := 828) X.1 X.2.1 dL_law_720 (by decide) (fun _ => ?_) (fun c => absurd rfl c)
        exact back _ _ _ _ _ _ _ _ _ _ _ _ hS1 hW hV (by (try dsimp only); omega) (by (try dsimp only); omega) hl
      by_cases q17 : y = 17
      · refine lv_tableIn (tgt := 725) X.1 X.2.1 dL_law_33 (by rw [q17]; decide) (by rw [q17]; decide) (by rw [q17]; rfl) (by decide) ?_
        obtain ⟨r, n1, K1, I1, R1, J1, h1, h2, hS1⟩ := (hst.2.2.2.2.2.2.2.2.2.2.2.2.2.2.2.2.2.2.2.1) k K I R n KM J RM (xs (nI (7 * j) + 1).toNatClampNeg) (xs (nI (7 * j) + 2).toNatClampNeg) (xs (nI (7 * j) + 3).toNatClampNeg) (xs (nI (7 * j) + 4).toNatClampNeg) hSim
        obtain ⟨z1, z2, z3, z4, z5⟩ := hst.2.1 _ _ _ _ _ _ _ _ hSim
        refine lv_aload_n X.1 X.2.1 dL_law_725 rfl (lv_at hl 1 rfl) ?_
        refine lv_aload_n X.1 X.2.1 dL_law_726 rfl (lv_at hl 0 rfl) ?_
        refine lv_iload_n X.1 X.2.1 dL_law_727 rfl (lv_at hl 3 rfl) ?_
        refine lv_iconst (v := 1) X.1 X.2.1 dL_law_728 (by decide) ?_
        refine lv_iadd X.1 X.2.1 dL_law_729 ?_
        refine va_sld X.1 X.2.1 hX hbl hbA hW.2.1 (hin 1 (by omega)) dL_law_730 ?_
        refine lv_aload_n X.1 X.2.1 dL_law_731 rfl (lv_at hl 0 rfl) ?_
        refine lv_iload_n X.1 X.2.1 dL_law_732 rfl (lv_at hl 3 rfl) ?_
        refine lv_iconst (v := 2) X.1 X.2.1 dL_law_733 (by decide) ?_
        refine lv_iadd X.1 X.2.1 dL_law_734 ?_
        refine va_sld X.1 X.2.1 hX hbl hbA hW.2.1 (hin 2 (by omega)) dL_law_735 ?_
        refine lv_aload_n X.1 X.2.1 dL_law_736 rfl (lv_at hl 0 rfl) ?_
        refine lv_iload_n X.1 X.2.1 dL_law_737 rfl (lv_at hl 3 rfl) ?_
        refine lv_iconst (v := 3) X.1 X.2.1 dL_law_738 (by decide) ?_
        refine lv_iadd X.1 X.2.1 dL_law_739 ?_
        refine va_sld X.1 X.2.1 hX hbl hbA hW.2.1 (hin 3 (by omega)) dL_law_740 ?_
        refine lv_aload_n X.1 X.2.1 dL_law_741 rfl (lv_at hl 0 rfl) ?_
        refine lv_iload_n X.1 X.2.1 dL_law_742 rfl (lv_at hl 3 rfl) ?_
        refine lv_iconst (v := 4) X.1 X.2.1 dL_law_743 (by decide) ?_
        refine lv_iadd X.1 X.2.1 dL_law_744 ?_
        refine va_sld X.1 X.2.1 hX hbl hbA hW.2.1 (hin 4 (by omega)) dL_law_745 ?_
        refine zl_bothI (ze_runV (As := [.int (xs (nI (7 * j) + 1).toNatClampNeg), .int (xs (nI (7 * j) + 2).toNatClampNeg), .int (xs (nI (7 * j) + 3).toNatClampNeg), .int (xs (nI (7 * j) + 4).toNatClampNeg)]) (rest := []) X 6 87 (c_X6_apply l D B n h1) vX6_apply kml_L_87 hW z1 rfl rfl ⟨by decide, by decide⟩ rfl hl.1 rfl (Nat.le_of_ble_eq_true rfl) ⟨by show _ + 4 ≤ (600000 : Nat); omega, by show _ + 100 ≤ (7302250 : Nat); omega⟩ dL_law_746) hW hV z3 z5 (fun H locs hW2 hV2 => ?_)
        replace hW := hW2
        replace hV := hV2
        obtain ⟨y1, y2, y3, y4, y5⟩ := hst.2.1 _ _ _ _ _ _ _ _ hS1
        refine lv_aload_n X.1 X.2.1 dL_law_749 rfl (lv_at hl 2 rfl) ?_
        refine lv_aload_n X.1 X.2.1 dL_law_750 rfl (lv_at hl 0 rfl) ?_
        refine lv_iload_n X.1 X.2.1 dL_law_751 rfl (lv_at hl 3 rfl) ?_
        refine lv_iconst (v := 1) X.1 X.2.1 dL_law_752 (by decide) ?_
        refine lv_iadd X.1 X.2.1 dL_law_753 ?_
        refine va_sld X.1 X.2.1 hX hbl hbA hW.2.1 (hin 1 (by omega)) dL_law_754 ?_
        refine lv_aload_n X.1 X.2.1 dL_law_755 rfl (lv_at hl 0 rfl) ?_
        refine lv_iload_n X.1 X.2.1 dL_law_756 rfl (lv_at hl 3 rfl) ?_
        refine lv_iconst (v := 2) X.1 X.2.1 dL_law_757 (by decide) ?_
        refine lv_iadd X.1 X.2.1 dL_law_758 ?_
        refine va_sld X.1 X.2.1 hX hbl hbA hW.2.1 (hin 2 (by omega)) dL_law_759 ?_
        refine lv_aload_n X.1 X.2.1 dL_law_760 rfl (lv_at hl 0 rfl) ?_
        refine lv_iload_n X.1 X.2.1 dL_law_761 rfl (lv_at hl 3 rfl) ?_
        refine lv_iconst (v := 3) X.1 X.2.1 dL_law_762 (by decide) ?_
        refine lv_iadd X.1 X.2.1 dL_law_763 ?_
        refine va_sld X.1 X.2.1 hX hbl hbA hW.2.1 (hin 3 (by omega)) dL_law_764 ?_
        refine lv_aload_n X.1 X.2.1 dL_law_765 rfl (lv_at hl 0 rfl) ?_
        refine lv_iload_n X.1 X.2.1 dL_law_766 rfl (lv_at hl 3 rfl) ?_
        refine lv_iconst (v := 4) X.1 X.2.1 dL_law_767 (by decide) ?_
        refine lv_iadd X.1 X.2.1 dL_law_768 ?_
        refine va_sld X.1 X.2.1 hX hbl hbA hW.2.1 (hin 4 (by omega)) dL_law_769 ?_
        refine zl_bothI (ze_runV (As := [.int (xs (nI (7 * j) + 1).toNatClampNeg), .int (xs (nI (7 * j) + 2).toNatClampNeg), .int (xs (nI (7 * j) + 3).toNatClampNeg), .int (xs (nI (7 * j) + 4).toNatClampNeg)]) (rest := [.int r]) X 7 90 (c_X7_apply l D B n1 z2 h2) vX7_apply kml_L_90 hV z2 rfl rfl ⟨by decide, by decide⟩ rfl hl.1 rfl (Nat.le_of_ble_eq_true rfl) ⟨by show _ + 0 ≤ (600000 : Nat); (try dsimp only); omega, by show _ + 0 ≤ (7302250 : Nat); (try dsimp only); omega⟩ dL_law_770) hV hW (fun b => (y3 b).symm) y4 (fun H locs hV2 hW2 => ?_)
        replace hW := hW2
        replace hV := hV2
        refine lv_icmp_eq (tgt := 828) X.1 X.2.1 dL_law_773 (by decide) (fun _ => ?_) (fun c => absurd rfl c)
        exact back _ _ _ _ _ _ _ _ _ _ _ _ hS1 hW hV (by (try dsimp only); omega) (by (try dsimp only); omega) hl
      by_cases q18 : y = 18
      · refine lv_tableIn (tgt := 778) X.1 X.2.1 dL_law_33 (by rw [q18]; decide) (by rw [q18]; decide) (by rw [q18]; rfl) (by decide) ?_
        obtain ⟨r, h1, h2, hS1⟩ := (hst.2.2.2.2.2.2.2.2.2.2.2.2.2.2.2.2.2.2.2.2.1) k K I R n KM J RM (xs (nI (7 * j) + 1).toNatClampNeg) hSim
        obtain ⟨z1, z2, z3, z4, z5⟩ := hst.2.1 _ _ _ _ _ _ _ _ hSim
        refine lv_aload_n X.1 X.2.1 dL_law_778 rfl (lv_at hl 1 rfl) ?_
        refine lv_aload_n X.1 X.2.1 dL_law_779 rfl (lv_at hl 0 rfl) ?_
        refine lv_iload_n X.1 X.2.1 dL_law_780 rfl (lv_at hl 3 rfl) ?_
        refine lv_iconst (v := 1) X.1 X.2.1 dL_law_781 (by decide) ?_
        refine lv_iadd X.1 X.2.1 dL_law_782 ?_
        refine va_sld X.1 X.2.1 hX hbl hbA hW.2.1 (hin 1 (by omega)) dL_law_783 ?_
        refine zl_bothI (ze_runV (As := [.int (xs (nI (7 * j) + 1).toNatClampNeg)]) (rest := []) X 6 91 (c_X6_told l D B n z1 h1) vX6_told kml_L_91 hW z1 rfl rfl ⟨by decide, by decide⟩ rfl hl.1 rfl (Nat.le_of_ble_eq_true rfl) ⟨by show _ + 0 ≤ (600000 : Nat); omega, by show _ + 0 ≤ (7302250 : Nat); omega⟩ dL_law_784) hW hV z3 z5 (fun H locs hW2 hV2 => ?_)
        replace hW := hW2
        replace hV := hV2
        obtain ⟨y1, y2, y3, y4, y5⟩ := hst.2.1 _ _ _ _ _ _ _ _ hS1
        refine lv_aload_n X.1 X.2.1 dL_law_787 rfl (lv_at hl 2 rfl) ?_
        refine lv_aload_n X.1 X.2.1 dL_law_788 rfl (lv_at hl 0 rfl) ?_
        refine lv_iload_n X.1 X.2.1 dL_law_789 rfl (lv_at hl 3 rfl) ?_
        refine lv_iconst (v := 1) X.1 X.2.1 dL_law_790 (by decide) ?_
        refine lv_iadd X.1 X.2.1 dL_law_791 ?_
        refine va_sld X.1 X.2.1 hX hbl hbA hW.2.1 (hin 1 (by omega)) dL_law_792 ?_
        refine zl_bothI (ze_runV (As := [.int (xs (nI (7 * j) + 1).toNatClampNeg)]) (rest := [.int r]) X 7 94 (c_X7_told l D B n z2 h2) vX7_told kml_L_94 hV z2 rfl rfl ⟨by decide, by decide⟩ rfl hl.1 rfl (Nat.le_of_ble_eq_true rfl) ⟨by show _ + 0 ≤ (600000 : Nat); (try dsimp only); omega, by show _ + 0 ≤ (7302250 : Nat); (try dsimp only); omega⟩ dL_law_793) hV hW (fun b => (y3 b).symm) y4 (fun H locs hV2 hW2 => ?_)
        replace hW := hW2
        replace hV := hV2
        refine lv_icmp_eq (tgt := 828) X.1 X.2.1 dL_law_796 (by decide) (fun _ => ?_) (fun c => absurd rfl c)
        exact back _ _ _ _ _ _ _ _ _ _ _ _ hS1 hW hV (by (try dsimp only); omega) (by (try dsimp only); omega) hl
      by_cases q19 : y = 19
      · refine lv_tableIn (tgt := 801) X.1 X.2.1 dL_law_33 (by rw [q19]; decide) (by rw [q19]; decide) (by rw [q19]; rfl) (by decide) ?_
        obtain ⟨r, I1, R1, J1, h1, h2, hS1⟩ := (hst.2.2.2.2.2.2.2.2.2.2.2.2.2.2.2.2.2.2.2.2.2.1) k K I R n KM J RM  hSim
        obtain ⟨z1, z2, z3, z4, z5⟩ := hst.2.1 _ _ _ _ _ _ _ _ hSim
        refine lv_aload_n X.1 X.2.1 dL_law_801 rfl (lv_at hl 1 rfl) ?_
        refine zl_bothI (ze_runV (As := []) (rest := []) X 6 95 (c_X6_undo l D B n z1 h1) vX6_undo kml_L_95 hW z1 rfl rfl ⟨by decide, by decide⟩ rfl hl.1 rfl (Nat.le_of_ble_eq_true rfl) ⟨by show _ + 0 ≤ (600000 : Nat); omega, by show _ + 0 ≤ (7302250 : Nat); omega⟩ dL_law_802) hW hV z3 z5 (fun H locs hW2 hV2 => ?_)
        replace hW := hW2
        replace hV := hV2
        obtain ⟨y1, y2, y3, y4, y5⟩ := hst.2.1 _ _ _ _ _ _ _ _ hS1
        refine lv_aload_n X.1 X.2.1 dL_law_805 rfl (lv_at hl 2 rfl) ?_
        refine zl_bothI (ze_runV (As := []) (rest := [.int r]) X 7 98 (c_X7_undo l D B n z2 h2) vX7_undo kml_L_98 hV z2 rfl rfl ⟨by decide, by decide⟩ rfl hl.1 rfl (Nat.le_of_ble_eq_true rfl) ⟨by show _ + 0 ≤ (600000 : Nat); (try dsimp only); omega, by show _ + 0 ≤ (7302250 : Nat); (try dsimp only); omega⟩ dL_law_806) hV hW (fun b => (y3 b).symm) y4 (fun H locs hV2 hW2 => ?_)
        replace hW := hW2
        replace hV := hV2
        refine lv_icmp_eq (tgt := 828) X.1 X.2.1 dL_law_809 (by decide) (fun _ => ?_) (fun c => absurd rfl c)
        exact back _ _ _ _ _ _ _ _ _ _ _ _ hS1 hW hV (by (try dsimp only); omega) (by (try dsimp only); omega) hl
      by_cases q20 : y = 20
      · refine lv_tableIn (tgt := 814) X.1 X.2.1 dL_law_33 (by rw [q20]; decide) (by rw [q20]; decide) (by rw [q20]; rfl) (by decide) ?_
        obtain ⟨r, I1, R1, J1, h1, h2, hS1⟩ := (hst.2.2.2.2.2.2.2.2.2.2.2.2.2.2.2.2.2.2.2.2.2.2) k K I R n KM J RM  hSim
        obtain ⟨z1, z2, z3, z4, z5⟩ := hst.2.1 _ _ _ _ _ _ _ _ hSim
        refine lv_aload_n X.1 X.2.1 dL_law_814 rfl (lv_at hl 1 rfl) ?_
        refine zl_bothL (ze_runV (As := []) (rest := []) X 6 99 (c_X6_digest l D B n z1 h1) vX6_digest kml_L_99 hW z1 rfl rfl ⟨by decide, by decide⟩ rfl hl.1 rfl (Nat.le_of_ble_eq_true rfl) ⟨by show _ + 0 ≤ (600000 : Nat); omega, by show _ + 0 ≤ (7302250 : Nat); omega⟩ dL_law_815) hW hV z3 z5 (fun H locs hW2 hV2 => ?_)
        replace hW := hW2
        replace hV := hV2
        obtain ⟨y1, y2, y3, y4, y5⟩ := hst.2.1 _ _ _ _ _ _ _ _ hS1
        refine lv_aload_n X.1 X.2.1 dL_law_818 rfl (lv_at hl 2 rfl) ?_
        refine zl_bothL (ze_runV (As := []) (rest := [.long r]) X 7 103 (c_X7_digest l D B n z2 h2) vX7_digest kml_L_103 hV z2 rfl rfl ⟨by decide, by decide⟩ rfl hl.1 rfl (Nat.le_of_ble_eq_true rfl) ⟨by show _ + 0 ≤ (600000 : Nat); (try dsimp only); omega, by show _ + 0 ≤ (7302250 : Nat); (try dsimp only); omega⟩ dL_law_819) hV hW (fun b => (y3 b).symm) y4 (fun H locs hV2 hW2 => ?_)
        replace hW := hW2
        replace hV := hV2
        refine W.lcmp X.1 X.2.1 dL_law_822 ?_
        refine lv_if_eq (tgt := 828) X.1 X.2.1 dL_law_823 (by decide) (fun _ => ?_) (fun c => absurd (lg_cmp_same r) c)
        exact back _ _ _ _ _ _ _ _ _ _ _ _ hS1 hW hV (by (try dsimp only); omega) (by (try dsimp only); omega) hl
      refine lv_tableOut (tgt := 828) X.1 X.2.1 dL_law_33 ?_ (by decide) ?_
      · have hne : ∀ k : Int32, ¬ y = k → y.toInt ≠ k.toInt := fun k h q => h (Int32.toInt_inj.mp q)
        have w0 := hne 0 q0
        have w1 := hne 1 q1
        have w2 := hne 2 q2
        have w3 := hne 3 q3
        have w4 := hne 4 q4
        have w5 := hne 5 q5
        have w6 := hne 6 q6
        have w7 := hne 7 q7
        have w8 := hne 8 q8
        have w9 := hne 9 q9
        have w10 := hne 10 q10
        have w11 := hne 11 q11
        have w12 := hne 12 q12
        have w13 := hne 13 q13
        have w14 := hne 14 q14
        have w15 := hne 15 q15
        have w16 := hne 16 q16
        have w17 := hne 17 q17
        have w18 := hne 18 q18
        have w19 := hne 19 q19
        have w20 := hne 20 q20
        simp at w0 w1 w2 w3 w4 w5 w6 w7 w8 w9 w10 w11 w12 w13 w14 w15 w16 w17 w18 w19 w20
        omega
      · exact back _ _ _ _ _ _ _ _ _ _ _ _ (hst.1 _ _ _ _ _ _ _ _ hSim) hW hV (by omega) (by omega) hl
set_option maxRecDepth 100000 in
set_option maxHeartbeats 8000000 in
theorem whole_of {p : Program} {e : Env} {s : State} {m : MethodId} {below : List Frame} {meth : Method} {c : Code} (l : Launch) {b L F am T : Nat} {xs : Nat → Int32} {Sim : zSimT} (hst : zSteps F am Sim) (hbirth : zBirth F am T Sim) (hT : T ≤ 512) (hL : L ≤ 7 * T + 6) (C0 : lw_At p s m meth c b L xs) : W p l e room_1 s m #[Value.ref b] below meth c s.heap [] 0 0 (lw_Z below #[Value.ref b] s) (entryFrame m ([Value.ref b] : List Value).toArray 4) := by
  obtain ⟨hx, hb, hr, hml, hown, hts, hX, hbl, hlocks, hgv⟩ := id C0
  obtain ⟨D, hKN⟩ := zKN_start hts
  have X : zX p s m c code 4 RL D := ⟨hx, hb, hml, hown, hKN⟩
  obtain ⟨B, hB⟩ : ∃ B, B = s.heap.size := ⟨_, rfl⟩
  obtain ⟨K, I, R, n2, KM, J, RM, hi1, hlt, hi2, hSim⟩ := hbirth
  have hl := lv_entry ([.ref b]) (n := 4) (Nat.le_of_ble_eq_true rfl)
  rw [lg_entry_eq]
  generalize (lg_sl ([.ref b]) ++ List.replicate (4 - (lg_sl ([.ref b])).length) Slot.unset).toArray = ls at hl ⊢
  have hl : lv_has ls 4 [(0, .ref b)] := hl
  have hS0 : va_S (fun q : Nat => s.heap.size ≤ q) s.heap s.heap [] := va_S.rf
  have hW : zS (fun q : Nat => s.heap.size ≤ q) D B 0 (fun _ => (0, 0)) (fun _ _ => 0) (fun _ _ => none) s.heap s.heap [] := ⟨⟨fun a => zc_none, by rw [hB]; rfl⟩, hS0, fun a h => absurd rfl h, fun q h => h⟩
  refine ze_nw X 6 7 (RX6, TX6, 11) (G := fun n1 K1 I1 R1 => f_X6_init F n1 K1 I1 R1 0) hi1 rfl kcx_L_7 kci_X6 kit_X6 hW (Nat.le_of_ble_eq_true rfl) (Nat.le_of_ble_eq_true rfl) dL_law_0 (fun n1 K1 I1 R1 H hf hW => ?_)
  have hf : f_X6_init F n1 K1 I1 R1 0 = some (am, K, I, R) := hf
  refine lv_dup X.1 X.2.1 dL_law_3 rfl ?_
  refine ze_aftV (ze_runI (b := 0) (As := []) (rest := [.ref (B + 0)]) X 9 (c_X6_init l D B n1 hf) vX6_init kml_L_9 hW ⟨Nat.le_of_ble_eq_true rfl, Nat.le_of_ble_eq_true rfl⟩ rfl hl.1 rfl (Nat.le_of_ble_eq_true rfl) ⟨Nat.le_of_ble_eq_true rfl, Nat.le_of_ble_eq_true rfl⟩ dL_law_4) hW (fun H locs hW => ?_)
  refine lv_astore_n (i := 1) (lv' := [(1, .ref (B + 0)), (0, .ref b)]) X.1 X.2.1 dL_law_7 rfl hl (by decide) rfl (fun ls hl => ?_)
  have hV : zS (fun q : Nat => s.heap.size ≤ q) D B am (fun _ => (0, 0)) (fun _ _ => 0) (fun _ _ => none) s.heap H locs := ⟨⟨fun a => zc_none, hW.1.2⟩, hW.2.1, fun a h => absurd rfl h, fun q h => h⟩
  refine zl_new X 7 10 (RX7, TX7, 39) rfl kcx_L_10 kci_X7 kit_X7 hV hW hlt (Nat.le_of_ble_eq_true rfl) (Nat.le_of_ble_eq_true rfl) dL_law_8 (fun H hV hW => ?_)
  refine lv_dup X.1 X.2.1 dL_law_11 rfl ?_
  refine zl_bothV (ze_runI (b := am) (As := []) (rest := [.ref (B + am)]) X 12 (c_X7_init l D B (am + 1) hi2) vX7_init kml_L_12 hV ⟨Nat.le_of_ble_eq_true rfl, Nat.le_of_ble_eq_true rfl⟩ rfl hl.1 rfl (Nat.le_of_ble_eq_true rfl) ⟨Nat.le_of_ble_eq_true rfl, Nat.le_of_ble_eq_true rfl⟩ dL_law_12) hV hW (fun b => ?_) (fun b h => Nat.lt_succ_of_lt (hlt b h)) (fun H locs hV hW => ?_)
  · rcases Nat.lt_trichotomy b am with h | h | h
    · exact Or.inl (by simp [zset, Nat.ne_of_lt h])
    · subst h
      refine Or.inr ?_
      rcases Nat.eq_zero_or_pos (K b).1 with h | h
      · exact h
      · exact absurd (hlt b (by omega)) (Nat.lt_irrefl _)
    · exact Or.inl (by simp [zset, Nat.ne_of_gt h])
  refine lv_astore_n (i := 2) (lv' := [(2, .ref (B + am)), (1, .ref (B + 0)), (0, .ref b)]) X.1 X.2.1 dL_law_15 rfl hl (by decide) rfl (fun ls hl => ?_)
  refine lv_iconst (v := 0) X.1 X.2.1 dL_law_16 (by decide) ?_
  refine lv_istore_n (i := 3) (lv' := [(3, .int 0), (2, .ref (B + am)), (1, .ref (B + 0)), (0, .ref b)]) X.1 X.2.1 dL_law_17 rfl hl (by decide) rfl (fun ls hl => ?_)
  have hl0 : lv_has ls 4 [(0, .ref b), (1, .ref (B + 0)), (2, .ref (B + am)), (3, .int (nI (7 * 0)))] := lv_sub hl [3, 2, 1, 0] rfl
  exact law_loop hst hT hL C0 X B hB T 0 (by omega) (Or.inr rfl) K I R n2 KM J RM _ _ H locs ls hSim hW hV (Nat.le_of_ble_eq_true rfl) (Nat.le_of_ble_eq_true rfl) hl0
