/-! WHAT A CALL MUST KEEP: the class beside the ghost (k is left over from another claim: any number will do) -/
abbrev zSimT : Type := Nat → zK → zI → zR → Nat → zK → zI → zR → Prop
/-- type -/
def zStep_type (F am : Nat) (Sim : zSimT) : Prop := ∀ (k : Nat) (K : zK) (I : zI) (R : zR) (n : Nat) (KM : zK) (J : zI) (RM : zR) (x1 : Int32), Sim (k + 1) K I R n KM J RM → ∃ (r : Int32) (I1 : zI) (J1 : zI), f_X6_type F K I R 0 x1 = some (r, I1) ∧ f_X7_type F KM J RM am x1 = some (r, J1) ∧ Sim k K I1 R n KM J1 RM
/-- clear -/
def zStep_clear (F am : Nat) (Sim : zSimT) : Prop := ∀ (k : Nat) (K : zK) (I : zI) (R : zR) (n : Nat) (KM : zK) (J : zI) (RM : zR), Sim (k + 1) K I R n KM J RM → ∃ (r : Int32) (I1 : zI) (J1 : zI), f_X6_clear F K I R 0 = some (r, I1) ∧ f_X7_clear F KM J RM am = some (r, J1) ∧ Sim k K I1 R n KM J1 RM
/-- put -/
def zStep_put (F am : Nat) (Sim : zSimT) : Prop := ∀ (k : Nat) (K : zK) (I : zI) (R : zR) (n : Nat) (KM : zK) (J : zI) (RM : zR) (x1 : Int32), Sim (k + 1) K I R n KM J RM → ∃ (r : Int32) (n1 : Nat) (K1 : zK) (I1 : zI) (R1 : zR) (J1 : zI), f_X6_put F n K I R 0 x1 = some (r, n1, K1, I1, R1) ∧ f_X7_put F KM J RM am x1 = some (r, J1) ∧ Sim k K1 I1 R1 n1 KM J1 RM
/-- empty -/
def zStep_empty (F am : Nat) (Sim : zSimT) : Prop := ∀ (k : Nat) (K : zK) (I : zI) (R : zR) (n : Nat) (KM : zK) (J : zI) (RM : zR) (x1 : Int32), Sim (k + 1) K I R n KM J RM → ∃ (r : Int32) (I1 : zI) (R1 : zR) (J1 : zI), f_X6_empty F K I R 0 x1 = some (r, I1, R1) ∧ f_X7_empty F KM J RM am x1 = some (r, J1) ∧ Sim k K I1 R1 n KM J1 RM
/-- set -/
def zStep_set (F am : Nat) (Sim : zSimT) : Prop := ∀ (k : Nat) (K : zK) (I : zI) (R : zR) (n : Nat) (KM : zK) (J : zI) (RM : zR) (x1 : Int32) (x2 : Int32), Sim (k + 1) K I R n KM J RM → ∃ (r : Int32) (I1 : zI) (R1 : zR) (J1 : zI), f_X6_set F K I R 0 x1 x2 = some (r, I1, R1) ∧ f_X7_set F KM J RM am x1 x2 = some (r, J1) ∧ Sim k K I1 R1 n KM J1 RM
/-- node -/
def zStep_node (F am : Nat) (Sim : zSimT) : Prop := ∀ (k : Nat) (K : zK) (I : zI) (R : zR) (n : Nat) (KM : zK) (J : zI) (RM : zR) (x1 : Int32) (x2 : Int32) (x3 : Int32), Sim (k + 1) K I R n KM J RM → ∃ (r : Int32) (J1 : zI), f_X6_node F K I R 0 x1 x2 x3 = some r ∧ f_X7_node F KM J RM am x1 x2 x3 = some (r, J1) ∧ Sim k K I R n KM J1 RM
/-- size -/
def zStep_size (F am : Nat) (Sim : zSimT) : Prop := ∀ (k : Nat) (K : zK) (I : zI) (R : zR) (n : Nat) (KM : zK) (J : zI) (RM : zR) (x1 : Int32) (x2 : Int32), Sim (k + 1) K I R n KM J RM → ∃ (r : Int32) (J1 : zI), f_X6_size F K I R 0 x1 x2 = some r ∧ f_X7_size F KM J RM am x1 x2 = some (r, J1) ∧ Sim k K I R n KM J1 RM
/-- join -/
def zStep_join (F am : Nat) (Sim : zSimT) : Prop := ∀ (k : Nat) (K : zK) (I : zI) (R : zR) (n : Nat) (KM : zK) (J : zI) (RM : zR) (x1 : Int32) (x2 : Int32) (x3 : Int32), Sim (k + 1) K I R n KM J RM → ∃ (r : Int32) (n1 : Nat) (K1 : zK) (I1 : zI) (R1 : zR) (J1 : zI), f_X6_join F n K I R 0 x1 x2 x3 = some (r, n1, K1, I1, R1) ∧ f_X7_join F KM J RM am x1 x2 x3 = some (r, J1) ∧ Sim k K1 I1 R1 n1 KM J1 RM
/-- joinAll -/
def zStep_joinAll (F am : Nat) (Sim : zSimT) : Prop := ∀ (k : Nat) (K : zK) (I : zI) (R : zR) (n : Nat) (KM : zK) (J : zI) (RM : zR) (x1 : Int32) (x2 : Int32), Sim (k + 1) K I R n KM J RM → ∃ (r : Int32) (n1 : Nat) (K1 : zK) (I1 : zI) (R1 : zR) (J1 : zI), f_X6_joinAll F n K I R 0 x1 x2 = some (r, n1, K1, I1, R1) ∧ f_X7_joinAll F KM J RM am x1 x2 = some (r, J1) ∧ Sim k K1 I1 R1 n1 KM J1 RM
/-- origin -/
def zStep_origin (F am : Nat) (Sim : zSimT) : Prop := ∀ (k : Nat) (K : zK) (I : zI) (R : zR) (n : Nat) (KM : zK) (J : zI) (RM : zR) (x1 : Int32) (x2 : Int32) (x3 : Int32) (x4 : Int32), Sim (k + 1) K I R n KM J RM → ∃ (r : Int32) (n1 : Nat) (K1 : zK) (I1 : zI) (R1 : zR) (J1 : zI), f_X6_origin F n K I R 0 x1 x2 x3 x4 = some (r, n1, K1, I1, R1) ∧ f_X7_origin F KM J RM am x1 x2 x3 x4 = some (r, J1) ∧ Sim k K1 I1 R1 n1 KM J1 RM
/-- covers -/
def zStep_covers (F am : Nat) (Sim : zSimT) : Prop := ∀ (k : Nat) (K : zK) (I : zI) (R : zR) (n : Nat) (KM : zK) (J : zI) (RM : zR) (x1 : Int32) (x2 : Int32), Sim (k + 1) K I R n KM J RM → ∃ (r : Int32) (I1 : zI) (R1 : zR) (J1 : zI), f_X6_covers F K I R 0 x1 x2 = some (r, I1, R1) ∧ f_X7_covers F KM J RM am x1 x2 = some (r, J1) ∧ Sim k K I1 R1 n KM J1 RM
/-- filled -/
def zStep_filled (F am : Nat) (Sim : zSimT) : Prop := ∀ (k : Nat) (K : zK) (I : zI) (R : zR) (n : Nat) (KM : zK) (J : zI) (RM : zR) (x1 : Int32) (x2 : Int32) (x3 : Int32) (x4 : Int32), Sim (k + 1) K I R n KM J RM → ∃ (r : Int32) (I1 : zI) (R1 : zR) (J1 : zI), f_X6_filled F K I R 0 x1 x2 x3 x4 = some (r, I1, R1) ∧ f_X7_filled F KM J RM am x1 x2 x3 x4 = some (r, J1) ∧ Sim k K I1 R1 n KM J1 RM
/-- compare -/
def zStep_compare (F am : Nat) (Sim : zSimT) : Prop := ∀ (k : Nat) (K : zK) (I : zI) (R : zR) (n : Nat) (KM : zK) (J : zI) (RM : zR) (x1 : Int32) (x2 : Int32), Sim (k + 1) K I R n KM J RM → ∃ (r : Int32) (I1 : zI) (R1 : zR) (J1 : zI), f_X6_compare F K I R 0 x1 x2 = some (r, I1, R1) ∧ f_X7_compare F KM J RM am x1 x2 = some (r, J1) ∧ Sim k K I1 R1 n KM J1 RM
/-- covered -/
def zStep_covered (F am : Nat) (Sim : zSimT) : Prop := ∀ (k : Nat) (K : zK) (I : zI) (R : zR) (n : Nat) (KM : zK) (J : zI) (RM : zR) (x1 : Int32), Sim (k + 1) K I R n KM J RM → ∃ (r : Int32) (I1 : zI) (R1 : zR) (J1 : zI), f_X6_covered F K I R 0 x1 = some (r, I1, R1) ∧ f_X7_covered F KM J RM am x1 = some (r, J1) ∧ Sim k K I1 R1 n KM J1 RM
/-- isLeast -/
def zStep_isLeast (F am : Nat) (Sim : zSimT) : Prop := ∀ (k : Nat) (K : zK) (I : zI) (R : zR) (n : Nat) (KM : zK) (J : zI) (RM : zR) (x1 : Int32) (x2 : Int32) (x3 : Int32), Sim (k + 1) K I R n KM J RM → ∃ (r : Int32) (I1 : zI) (R1 : zR) (J1 : zI), f_X6_isLeast F K I R 0 x1 x2 x3 = some (r, I1, R1) ∧ f_X7_isLeast F KM J RM am x1 x2 x3 = some (r, J1) ∧ Sim k K I1 R1 n KM J1 RM
/-- learn -/
def zStep_learn (F am : Nat) (Sim : zSimT) : Prop := ∀ (k : Nat) (K : zK) (I : zI) (R : zR) (n : Nat) (KM : zK) (J : zI) (RM : zR) (x1 : Int32) (x2 : Int32) (x3 : Int32) (x4 : Int32) (x5 : Int32) (x6 : Int32), Sim (k + 1) K I R n KM J RM → ∃ (r : Int32) (n1 : Nat) (K1 : zK) (I1 : zI) (R1 : zR) (J1 : zI), f_X6_learn F n K I R 0 x1 x2 x3 x4 x5 x6 = some (r, n1, K1, I1, R1) ∧ f_X7_learn F KM J RM am x1 x2 x3 x4 x5 x6 = some (r, J1) ∧ Sim k K1 I1 R1 n1 KM J1 RM
/-- apply -/
def zStep_apply (F am : Nat) (Sim : zSimT) : Prop := ∀ (k : Nat) (K : zK) (I : zI) (R : zR) (n : Nat) (KM : zK) (J : zI) (RM : zR) (x1 : Int32) (x2 : Int32) (x3 : Int32) (x4 : Int32), Sim (k + 1) K I R n KM J RM → ∃ (r : Int32) (n1 : Nat) (K1 : zK) (I1 : zI) (R1 : zR) (J1 : zI), f_X6_apply F n K I R 0 x1 x2 x3 x4 = some (r, n1, K1, I1, R1) ∧ f_X7_apply F KM J RM am x1 x2 x3 x4 = some (r, J1) ∧ Sim k K1 I1 R1 n1 KM J1 RM
/-- told -/
def zStep_told (F am : Nat) (Sim : zSimT) : Prop := ∀ (k : Nat) (K : zK) (I : zI) (R : zR) (n : Nat) (KM : zK) (J : zI) (RM : zR) (x1 : Int32), Sim (k + 1) K I R n KM J RM → ∃ (r : Int32), f_X6_told F K I R 0 x1 = some r ∧ f_X7_told F KM J RM am x1 = some r ∧ Sim k K I R n KM J RM
/-- undo -/
def zStep_undo (F am : Nat) (Sim : zSimT) : Prop := ∀ (k : Nat) (K : zK) (I : zI) (R : zR) (n : Nat) (KM : zK) (J : zI) (RM : zR), Sim (k + 1) K I R n KM J RM → ∃ (r : Int32) (I1 : zI) (R1 : zR) (J1 : zI), f_X6_undo F K I R 0 = some (r, I1, R1) ∧ f_X7_undo F KM J RM am = some (r, J1) ∧ Sim k K I1 R1 n KM J1 RM
