/-! GHOST: a second way to compute the same answers, as plain definitions over rows of a page (no bytecode): used only to speak of what the class answers -/
/-! LeastPatternsModel.<init>()V -/
def f_X7_init (F : Nat) (n : Nat) (K : zK) (I : zI) (R : zR) (a0 : Nat)  : Option (Nat × zK × zI × zR) :=
  zbd3 (some (n + 1, zset K n (1, 5751), zclr I n 0)) fun n1 K2 I3 =>
  if (K2 a0).1 = 17 then
  zbd (some (zup R a0 0 (some n))) fun R5 =>
  zbd3 (some (n1 + 1, zset K2 n1 (1, 80), zclr I3 n1 0)) fun n6 K7 I8 =>
  if (K7 a0).1 = 17 then
  zbd (some (zup R5 a0 2 (some n1))) fun R10 =>
  zbd (some (zup I8 a0 4 (-9 : Int32))) fun I11 =>
  zbd3 (some (n6 + 1, zset K7 n6 (1, 32), zclr I11 n6 0)) fun n12 K13 I14 =>
  if (K13 a0).1 = 17 then
  zbd (some (zup R10 a0 5 (some n6))) fun R16 =>
  zbd3 (some (n12 + 1, zset K13 n12 (1, 32), zclr I14 n12 0)) fun n17 K18 I19 =>
  if (K18 a0).1 = 17 then
  zbd (some (zup R16 a0 6 (some n12))) fun R21 =>
  zbd3 (some (n17 + 1, zset K18 n17 (1, 32), zclr I19 n17 0)) fun n22 K23 I24 =>
  if (K23 a0).1 = 17 then
  zbd (some (zup R21 a0 7 (some n17))) fun R26 =>
  zbd3 (some (n22 + 1, zset K23 n22 (1, 32), zclr I24 n22 0)) fun n27 K28 I29 =>
  if (K28 a0).1 = 17 then
  zbd (some (zup R26 a0 8 (some n22))) fun R31 =>
  zbd3 (some (n27 + 1, zset K28 n27 (1, 10), zclr I29 n27 0)) fun n32 K33 I34 =>
  if (K33 a0).1 = 17 then
  zbd (some (zup R31 a0 9 (some n27))) fun R36 =>
  zbd3 (some (n32 + 1, zset K33 n32 (1, 9), zclr I34 n32 0)) fun n37 K38 I39 =>
  if (K38 a0).1 = 17 then
  zbd (some (zup R36 a0 10 (some n32))) fun R41 =>
  zbd3 (some (n37 + 1, zset K38 n37 (2, 9), zclr I39 n37 0)) fun n42 K43 I44 =>
  if (K43 a0).1 = 17 then
  zbd (some (zup R41 a0 11 (some n37))) fun R46 =>
  zbd3 (some (n42 + 1, zset K43 n42 (1, 8), zclr I44 n42 0)) fun n47 K48 I49 =>
  if (K48 a0).1 = 17 then
  zbd (some (zup R46 a0 15 (some n42))) fun R51 =>
  zbd3 (some (n47 + 1, zset K48 n47 (1, 10), zclr I49 n47 0)) fun n52 K53 I54 =>
  if (K53 a0).1 = 17 then
  zbd (some (zup R51 a0 17 (some n47))) fun R56 =>
  zbd3 (some (n52 + 1, zset K53 n52 (1, 10), zclr I54 n52 0)) fun n57 K58 I59 =>
  if (K58 a0).1 = 17 then
  zbd (some (zup R56 a0 18 (some n52))) fun R61 =>
  zbd3 (some (n57 + 1, zset K58 n57 (1, 10), zclr I59 n57 0)) fun n62 K63 I64 =>
  if (K63 a0).1 = 17 then
  zbd (some (zup R61 a0 19 (some n57))) fun R66 =>
  zbd3 (some (n62 + 1, zset K63 n62 (1, 10), zclr I64 n62 0)) fun n67 K68 I69 =>
  if (K68 a0).1 = 17 then
  zbd (some (zup R66 a0 20 (some n62))) fun R71 =>
  zbd3 (some (n67 + 1, zset K68 n67 (1, 10), zclr I69 n67 0)) fun n72 K73 I74 =>
  if (K73 a0).1 = 17 then
  zbd (some (zup R71 a0 21 (some n67))) fun R76 =>
  zbd3 (some (n72 + 1, zset K73 n72 (1, 10), zclr I74 n72 0)) fun n77 K78 I79 =>
  if (K78 a0).1 = 17 then
  zbd (some (zup R76 a0 22 (some n72))) fun R81 =>
  zbd3 (some (n77 + 1, zset K78 n77 (1, 10), zclr I79 n77 0)) fun n82 K83 I84 =>
  if (K83 a0).1 = 17 then
  zbd (some (zup R81 a0 23 (some n77))) fun R86 =>
  zbd3 (some (n82 + 1, zset K83 n82 (2, 160), zclr I84 n82 0)) fun n87 K88 I89 =>
  if (K88 a0).1 = 17 then
  zbd (some (zup R86 a0 24 (some n82))) fun R91 =>
  zbd3 (some (n87 + 1, zset K88 n87 (1, 160), zclr I89 n87 0)) fun n92 K93 I94 =>
  if (K93 a0).1 = 17 then
  zbd (some (zup R91 a0 25 (some n87))) fun R96 =>
  zbd3 (some (n92 + 1, zset K93 n92 (1, 160), zclr I94 n92 0)) fun n97 K98 I99 =>
  if (K98 a0).1 = 17 then
  zbd (some (zup R96 a0 26 (some n92))) fun R101 =>
  zbd3 (some (n97 + 1, zset K98 n97 (1, 160), zclr I99 n97 0)) fun n102 K103 I104 =>
  if (K103 a0).1 = 17 then
  zbd (some (zup R101 a0 27 (some n97))) fun R106 =>
  zbd3 (some (n102 + 1, zset K103 n102 (1, 160), zclr I104 n102 0)) fun n107 K108 I109 =>
  if (K108 a0).1 = 17 then
  zbd (some (zup R106 a0 28 (some n102))) fun R111 =>
  zbd3 (some (n107 + 1, zset K108 n107 (1, 10), zclr I109 n107 0)) fun n112 K113 I114 =>
  if (K113 a0).1 = 17 then
  zbd (some (zup R111 a0 30 (some n107))) fun R116 =>
  zbd3 (some (n112 + 1, zset K113 n112 (1, 10), zclr I114 n112 0)) fun n117 K118 I119 =>
  if (K118 a0).1 = 17 then
  zbd (some (zup R116 a0 31 (some n112))) fun R121 =>
  zbd3 (some (n117 + 1, zset K118 n117 (1, 10), zclr I119 n117 0)) fun n122 K123 I124 =>
  if (K123 a0).1 = 17 then
  zbd (some (zup R121 a0 32 (some n117))) fun R126 =>
  zbd3 (some (n122 + 1, zset K123 n122 (2, 100), zclr I124 n122 0)) fun n127 K128 I129 =>
  if (K128 a0).1 = 17 then
  zbd (some (zup R126 a0 33 (some n122))) fun R131 =>
  zbd3 (some (n127 + 1, zset K128 n127 (1, 10), zclr I129 n127 0)) fun n132 K133 I134 =>
  if (K133 a0).1 = 17 then
  zbd (some (zup R131 a0 34 (some n127))) fun R136 =>
  zbd3 (some (n132 + 1, zset K133 n132 (1, 10), zclr I134 n132 0)) fun n137 K138 I139 =>
  if (K138 a0).1 = 17 then
  zbd (some (zup R136 a0 35 (some n132))) fun R141 =>
  zbd3 (some (n137 + 1, zset K138 n137 (2, 10), zclr I139 n137 0)) fun n142 K143 I144 =>
  if (K143 a0).1 = 17 then
  zbd (some (zup R141 a0 36 (some n137))) fun R146 =>
  zbd3 (some (n142 + 1, zset K143 n142 (2, 10), zclr I144 n142 0)) fun n147 K148 I149 =>
  if (K148 a0).1 = 17 then
  zbd (some (zup R146 a0 37 (some n142))) fun R151 =>
  zbd3 (some (n147 + 1, zset K148 n147 (2, 10), zclr I149 n147 0)) fun n152 K153 I154 =>
  if (K153 a0).1 = 17 then
  zbd (some (zup R151 a0 38 (some n147))) fun R156 =>
  some (n152, K153, I154, R156)
  else none
  else none
  else none
  else none
  else none
  else none
  else none
  else none
  else none
  else none
  else none
  else none
  else none
  else none
  else none
  else none
  else none
  else none
  else none
  else none
  else none
  else none
  else none
  else none
  else none
  else none
  else none
  else none
  else none
  else none
  else none
/-! LeastPatternsModel.in(III)Z -/
def f_X7_in (F : Nat) (K : zK) (I : zI) (R : zR) (x0 : Int32) (x1 : Int32) (x2 : Int32) : Option (Int32) :=
  if x0 < x1 then
    some (0 : Int32)
  else
    if x2 < x0 then
      some (0 : Int32)
    else
      some (1 : Int32)
/-! LeastPatternsModel.records()V -/
def g_X7_records_64 (F : Nat) (K : zK) (R : zR) (a0 : Nat)  (kself : zI → Int32 → Option (zI)) (I : zI) (x1 : Int32) : Option (zI) :=
  if (780 : Int32) ≤ x1 then
    some I
  else
    zbd (some (R a0 0)) fun o2 =>
    zbd (some (R a0 0)) fun o3 =>
    zbd (zdr K o3 1) fun a4 =>
    zbd (zrd K I a4 x1) fun v7 =>
    zbd (zdr K o2 1) fun a8 =>
    zbd (zwr K I a8 (((780 : Int32) * (I a0 1)) + x1) v7) fun I11 =>
    kself I11 (x1 + (1 : Int32))
def f_X7_records_64 (F : Nat) (K : zK) (R : zR) (a0 : Nat)  : Nat → zI → Int32 → Option (zI)
  | 0, _, _ => none
  | t + 1, I, x1 => g_X7_records_64 F K R a0  (f_X7_records_64 F K R a0  t) I x1
def f_X7_records_52 (F : Nat) (K : zK) (R : zR) (a0 : Nat)  (I : zI) : Option (zI) :=
  zbd (some (zup I a0 1 ((I a0 1) + (1 : Int32)))) fun I12 =>
  f_X7_records_64 F K R a0 F I12 (0 : Int32)
def g_X7_records_13 (F : Nat) (K : zK) (R : zR) (a0 : Nat)  (kself : zI → Int32 → Option (zI)) (I : zI) (x1 : Int32) : Option (zI) :=
  if (4680 : Int32) ≤ x1 then
    zbd (some (zup I a0 1 ((I a0 1) - (1 : Int32)))) fun I14 =>
    f_X7_records_52 F K R a0 I14
  else
    zbd (some (R a0 0)) fun o15 =>
    zbd (some (R a0 0)) fun o16 =>
    zbd (zdr K o16 1) fun a17 =>
    zbd (zrd K I a17 (x1 + (780 : Int32))) fun v20 =>
    zbd (zdr K o15 1) fun a21 =>
    zbd (zwr K I a21 x1 v20) fun I24 =>
    kself I24 (x1 + (1 : Int32))
def f_X7_records_13 (F : Nat) (K : zK) (R : zR) (a0 : Nat)  : Nat → zI → Int32 → Option (zI)
  | 0, _, _ => none
  | t + 1, I, x1 => g_X7_records_13 F K R a0  (f_X7_records_13 F K R a0  t) I x1
def f_X7_records (F : Nat) (K : zK) (I : zI) (R : zR) (a0 : Nat)  : Option (zI) :=
  if (I a0 1) = (6 : Int32) then
    f_X7_records_13 F K R a0 F I (780 : Int32)
  else
    f_X7_records_52 F K R a0 I
/-! LeastPatternsModel.sort(II)I -/
def f_X7_sort (F : Nat) (K : zK) (I : zI) (R : zR) (a0 : Nat) (x1 : Int32) (x2 : Int32) : Option (Int32) :=
  zbd (some (R a0 0)) fun o1 =>
  zbd (zdr K o1 1) fun a2 =>
  zbd (zrd K I a2 ((x1 + (1 : Int32)) + ((3 : Int32) * x2))) fun v5 =>
  some v5
/-! LeastPatternsModel.number(II)I -/
def f_X7_number (F : Nat) (K : zK) (I : zI) (R : zR) (a0 : Nat) (x1 : Int32) (x2 : Int32) : Option (Int32) :=
  zbd (some (R a0 0)) fun o1 =>
  zbd (zdr K o1 1) fun a2 =>
  zbd (zrd K I a2 ((x1 + (2 : Int32)) + ((3 : Int32) * x2))) fun v5 =>
  some v5
/-! LeastPatternsModel.arguments(II)I -/
def f_X7_arguments (F : Nat) (K : zK) (I : zI) (R : zR) (a0 : Nat) (x1 : Int32) (x2 : Int32) : Option (Int32) :=
  zbd (some (R a0 0)) fun o1 =>
  zbd (zdr K o1 1) fun a2 =>
  zbd (zrd K I a2 ((x1 + (3 : Int32)) + ((3 : Int32) * x2))) fun v5 =>
  some v5
/-! LeastPatternsModel.writes(IIIII)V -/
def f_X7_writes (F : Nat) (K : zK) (I : zI) (R : zR) (a0 : Nat) (x1 : Int32) (x2 : Int32) (x3 : Int32) (x4 : Int32) (x5 : Int32) : Option (zI) :=
  zbd (some (R a0 0)) fun o1 =>
  zbd (zdr K o1 1) fun a2 =>
  zbd (zwr K I a2 ((x1 + (1 : Int32)) + ((3 : Int32) * x2)) x3) fun I5 =>
  zbd (some (R a0 0)) fun o6 =>
  zbd (zdr K o6 1) fun a7 =>
  zbd (zwr K I5 a7 ((x1 + (2 : Int32)) + ((3 : Int32) * x2)) x4) fun I10 =>
  zbd (some (R a0 0)) fun o11 =>
  zbd (zdr K o11 1) fun a12 =>
  zbd (zwr K I10 a12 ((x1 + (3 : Int32)) + ((3 : Int32) * x2)) x5) fun I15 =>
  some I15
/-! LeastPatternsModel.copies(II)V -/
def g_X7_copies_2 (F : Nat) (K : zK) (R : zR) (a0 : Nat)  (kself : zI → Int32 → Int32 → Int32 → Option (zI)) (I : zI) (x1 : Int32) (x2 : Int32) (x3 : Int32) : Option (zI) :=
  if (97 : Int32) ≤ x3 then
    some I
  else
    zbd (some (R a0 0)) fun o2 =>
    zbd (some (R a0 0)) fun o3 =>
    zbd (zdr K o3 1) fun a4 =>
    zbd (zrd K I a4 (x1 + x3)) fun v7 =>
    zbd (zdr K o2 1) fun a8 =>
    zbd (zwr K I a8 (x2 + x3) v7) fun I11 =>
    kself I11 x1 x2 (x3 + (1 : Int32))
def f_X7_copies_2 (F : Nat) (K : zK) (R : zR) (a0 : Nat)  : Nat → zI → Int32 → Int32 → Int32 → Option (zI)
  | 0, _, _, _, _ => none
  | t + 1, I, x1, x2, x3 => g_X7_copies_2 F K R a0  (f_X7_copies_2 F K R a0  t) I x1 x2 x3
def f_X7_copies (F : Nat) (K : zK) (I : zI) (R : zR) (a0 : Nat) (x1 : Int32) (x2 : Int32) : Option (zI) :=
  f_X7_copies_2 F K R a0 F I x1 x2 (0 : Int32)
/-! LeastPatternsModel.counts(I[I)V -/
def g_X7_counts_21 (F : Nat) (K : zK) (R : zR) (a0 : Nat) (k9 : zI → Int32 → Option Nat → Int32 → Option (zI)) (kself : zI → Int32 → Option Nat → Int32 → Int32 → Int32 → Option (zI)) (I : zI) (x1 : Int32) (x2 : Option Nat) (x3 : Int32) (x4 : Int32) (x5 : Int32) : Option (zI) :=
  zbd (f_X7_arguments F K I R a0 x1 x3) fun v1 =>
  if v1 ≤ x5 then
    zbd (zdr K x2 1) fun a4 =>
    zbd (zwr K I a4 x3 (x4 - x3)) fun I7 =>
    k9 I7 x1 (some a4) (x3 + (-1 : Int32))
  else
    zbd (zdr K x2 1) fun a8 =>
    zbd (zrd K I a8 x4) fun v11 =>
    zbd (some (x4 + v11)) fun v12 =>
    kself I x1 (some a8) x3 v12 (x5 + (1 : Int32))
def f_X7_counts_21 (F : Nat) (K : zK) (R : zR) (a0 : Nat) (k9 : zI → Int32 → Option Nat → Int32 → Option (zI)) : Nat → zI → Int32 → Option Nat → Int32 → Int32 → Int32 → Option (zI)
  | 0, _, _, _, _, _, _ => none
  | t + 1, I, x1, x2, x3, x4, x5 => g_X7_counts_21 F K R a0 k9 (f_X7_counts_21 F K R a0 k9 t) I x1 x2 x3 x4 x5
def g_X7_counts_9 (F : Nat) (K : zK) (R : zR) (a0 : Nat)  (kself : zI → Int32 → Option Nat → Int32 → Option (zI)) (I : zI) (x1 : Int32) (x2 : Option Nat) (x3 : Int32) : Option (zI) :=
  if x3 < (0 : Int32) then
    some I
  else
    zbd (some (x3 + (1 : Int32))) fun v14 =>
    f_X7_counts_21 F K R a0 kself F I x1 x2 x3 v14 (0 : Int32)
def f_X7_counts_9 (F : Nat) (K : zK) (R : zR) (a0 : Nat)  : Nat → zI → Int32 → Option Nat → Int32 → Option (zI)
  | 0, _, _, _, _ => none
  | t + 1, I, x1, x2, x3 => g_X7_counts_9 F K R a0  (f_X7_counts_9 F K R a0  t) I x1 x2 x3
def f_X7_counts (F : Nat) (K : zK) (I : zI) (R : zR) (a0 : Nat) (x1 : Int32) (x2 : Option Nat) : Option (zI) :=
  zbd (some (R a0 0)) fun o15 =>
  zbd (zdr K o15 1) fun a16 =>
  zbd (zrd K I a16 x1) fun v19 =>
  zbd (some (v19 - (1 : Int32))) fun v20 =>
  f_X7_counts_9 F K R a0 F I x1 x2 v20
/-! LeastPatternsModel.levels(I)V -/
def g_X7_levels_43 (F : Nat) (K : zK) (R : zR) (a0 : Nat) (k26 : zI → Int32 → Int32 → Option (zI)) (kself : zI → Int32 → Int32 → Int32 → Int32 → Option (zI)) (I : zI) (x1 : Int32) (x2 : Int32) (x3 : Int32) (x4 : Int32) : Option (zI) :=
  zbd (f_X7_arguments F K I R a0 x1 x2) fun v1 =>
  if v1 ≤ x4 then
    k26 I x1 (x2 + (1 : Int32))
  else
    zbd (some (R a0 7)) fun o4 =>
    zbd (some (R a0 7)) fun o5 =>
    zbd (zdr K o5 1) fun a6 =>
    zbd (zrd K I a6 x2) fun v9 =>
    zbd (zdr K o4 1) fun a10 =>
    zbd (zwr K I a10 x3 (v9 + (1 : Int32))) fun I13 =>
    zbd (some (R a0 8)) fun o14 =>
    zbd (zdr K o14 1) fun a15 =>
    zbd (zwr K I13 a15 x3 x2) fun I18 =>
    zbd (some (R a0 5)) fun o19 =>
    zbd (zdr K o19 1) fun a20 =>
    zbd (zrd K I18 a20 x3) fun v23 =>
    zbd (some (x3 + v23)) fun v24 =>
    kself I18 x1 x2 v24 (x4 + (1 : Int32))
def f_X7_levels_43 (F : Nat) (K : zK) (R : zR) (a0 : Nat) (k26 : zI → Int32 → Int32 → Option (zI)) : Nat → zI → Int32 → Int32 → Int32 → Int32 → Option (zI)
  | 0, _, _, _, _, _ => none
  | t + 1, I, x1, x2, x3, x4 => g_X7_levels_43 F K R a0 k26 (f_X7_levels_43 F K R a0 k26 t) I x1 x2 x3 x4
def g_X7_levels_26 (F : Nat) (K : zK) (R : zR) (a0 : Nat)  (kself : zI → Int32 → Int32 → Option (zI)) (I : zI) (x1 : Int32) (x2 : Int32) : Option (zI) :=
  zbd (some (R a0 0)) fun o25 =>
  zbd (zdr K o25 1) fun a26 =>
  zbd (zrd K I a26 x1) fun v29 =>
  if v29 ≤ x2 then
    some I
  else
    zbd (some (x2 + (1 : Int32))) fun v31 =>
    f_X7_levels_43 F K R a0 kself F I x1 x2 v31 (0 : Int32)
def f_X7_levels_26 (F : Nat) (K : zK) (R : zR) (a0 : Nat)  : Nat → zI → Int32 → Int32 → Option (zI)
  | 0, _, _, _ => none
  | t + 1, I, x1, x2 => g_X7_levels_26 F K R a0  (f_X7_levels_26 F K R a0  t) I x1 x2
def f_X7_levels (F : Nat) (K : zK) (I : zI) (R : zR) (a0 : Nat) (x1 : Int32) : Option (zI) :=
  zbd (some (R a0 5)) fun o32 =>
  zbd (f_X7_counts F K I R a0 x1 o32) fun I33 =>
  zbd (some (R a0 7)) fun o35 =>
  zbd (zdr K o35 1) fun a36 =>
  zbd (zwr K I33 a36 (0 : Int32) (0 : Int32)) fun I39 =>
  zbd (some (R a0 8)) fun o40 =>
  zbd (zdr K o40 1) fun a41 =>
  zbd (zwr K I39 a41 (0 : Int32) (-9 : Int32)) fun I44 =>
  f_X7_levels_26 F K R a0 F I44 x1 (0 : Int32)
/-! LeastPatternsModel.child(II[I)I -/
def g_X7_child_8 (F : Nat) (K : zK) (I : zI) (R : zR) (a0 : Nat)  (kself : Int32 → Option Nat → Int32 → Int32 → Option (Int32)) (x2 : Int32) (x3 : Option Nat) (x4 : Int32) (x5 : Int32) : Option (Int32) :=
  if x2 ≤ x5 then
    some x4
  else
    zbd (zdr K x3 1) fun a2 =>
    zbd (zrd K I a2 x4) fun v5 =>
    zbd (some (x4 + v5)) fun v6 =>
    kself x2 (some a2) v6 (x5 + (1 : Int32))
def f_X7_child_8 (F : Nat) (K : zK) (I : zI) (R : zR) (a0 : Nat)  : Nat → Int32 → Option Nat → Int32 → Int32 → Option (Int32)
  | 0, _, _, _, _ => none
  | t + 1, x2, x3, x4, x5 => g_X7_child_8 F K I R a0  (f_X7_child_8 F K I R a0  t) x2 x3 x4 x5
def f_X7_child (F : Nat) (K : zK) (I : zI) (R : zR) (a0 : Nat) (x1 : Int32) (x2 : Int32) (x3 : Option Nat) : Option (Int32) :=
  zbd (some (x1 + (1 : Int32))) fun v7 =>
  f_X7_child_8 F K I R a0 F x2 x3 v7 (0 : Int32)
/-! LeastPatternsModel.sequenceOf(II[I)I -/
def g_X7_sequenceOf_8 (F : Nat) (K : zK) (I : zI) (R : zR) (a0 : Nat)  (kself : Int32 → Int32 → Option Nat → Int32 → Int32 → Option (Int32)) (x1 : Int32) (x2 : Int32) (x3 : Option Nat) (x4 : Int32) (x5 : Int32) : Option (Int32) :=
  zbd (f_X7_arguments F K I R a0 x1 x2) fun v1 =>
  if v1 ≤ x5 then
    some (-9 : Int32)
  else
    zbd (f_X7_sort F K I R a0 x1 x4) fun v4 =>
    if v4 = (3 : Int32) then
      some x5
    else
      zbd (zdr K x3 1) fun a7 =>
      zbd (zrd K I a7 x4) fun v10 =>
      zbd (some (x4 + v10)) fun v11 =>
      kself x1 x2 (some a7) v11 (x5 + (1 : Int32))
def f_X7_sequenceOf_8 (F : Nat) (K : zK) (I : zI) (R : zR) (a0 : Nat)  : Nat → Int32 → Int32 → Option Nat → Int32 → Int32 → Option (Int32)
  | 0, _, _, _, _, _ => none
  | t + 1, x1, x2, x3, x4, x5 => g_X7_sequenceOf_8 F K I R a0  (f_X7_sequenceOf_8 F K I R a0  t) x1 x2 x3 x4 x5
def f_X7_sequenceOf (F : Nat) (K : zK) (I : zI) (R : zR) (a0 : Nat) (x1 : Int32) (x2 : Int32) (x3 : Option Nat) : Option (Int32) :=
  zbd (some (x2 + (1 : Int32))) fun v12 =>
  f_X7_sequenceOf_8 F K I R a0 F x1 x2 x3 v12 (0 : Int32)
/-! LeastPatternsModel.isSame(IIIII)Z -/
def f_X7_isSame_59 (F : Nat) (K : zK) (I : zI) (R : zR) (a0 : Nat) (k6 : Int32 → Int32 → Int32 → Int32 → Int32 → Int32 → Int32 → Option (Int32)) (x1 : Int32) (x2 : Int32) (x3 : Int32) (x4 : Int32) (x5 : Int32) (x7 : Int32) (s0 : Int32) : Option (Int32) :=
  k6 x1 x2 x3 x4 x5 s0 (x7 + (1 : Int32))
def g_X7_isSame_6 (F : Nat) (K : zK) (I : zI) (R : zR) (a0 : Nat)  (kself : Int32 → Int32 → Int32 → Int32 → Int32 → Int32 → Int32 → Option (Int32)) (x1 : Int32) (x2 : Int32) (x3 : Int32) (x4 : Int32) (x5 : Int32) (x6 : Int32) (x7 : Int32) : Option (Int32) :=
  if ((3 : Int32) * x5) ≤ x7 then
    if x6 = 0 ∨ x6 = 1 then
    some x6
    else
    none
  else
    if x6 = (0 : Int32) then
      if x6 = 0 ∨ x6 = 1 then
      some x6
      else
      none
    else
      zbd (some (R a0 0)) fun o5 =>
      zbd (zdr K o5 1) fun a6 =>
      zbd (zrd K I a6 (((x1 + (1 : Int32)) + ((3 : Int32) * x2)) + x7)) fun v9 =>
      zbd (some (R a0 0)) fun o10 =>
      zbd (zdr K o10 1) fun a11 =>
      zbd (zrd K I a11 (((x3 + (1 : Int32)) + ((3 : Int32) * x4)) + x7)) fun v14 =>
      if v9 = v14 then
        f_X7_isSame_59 F K I R a0 kself x1 x2 x3 x4 x5 x7 (1 : Int32)
      else
        f_X7_isSame_59 F K I R a0 kself x1 x2 x3 x4 x5 x7 (0 : Int32)
def f_X7_isSame_6 (F : Nat) (K : zK) (I : zI) (R : zR) (a0 : Nat)  : Nat → Int32 → Int32 → Int32 → Int32 → Int32 → Int32 → Int32 → Option (Int32)
  | 0, _, _, _, _, _, _, _ => none
  | t + 1, x1, x2, x3, x4, x5, x6, x7 => g_X7_isSame_6 F K I R a0  (f_X7_isSame_6 F K I R a0  t) x1 x2 x3 x4 x5 x6 x7
def f_X7_isSame (F : Nat) (K : zK) (I : zI) (R : zR) (a0 : Nat) (x1 : Int32) (x2 : Int32) (x3 : Int32) (x4 : Int32) (x5 : Int32) : Option (Int32) :=
  f_X7_isSame_6 F K I R a0 F x1 x2 x3 x4 x5 (1 : Int32) (0 : Int32)
/-! LeastPatternsModel.type(I)I -/
def f_X7_type (F : Nat) (K : zK) (I : zI) (R : zR) (a0 : Nat) (x1 : Int32) : Option (Int32 × zI) :=
  zbd (f_X7_in F K I R x1 (33 : Int32) (126 : Int32)) fun v1 =>
  if v1 = (0 : Int32) then
    some ((-1 : Int32), I)
  else
    if (I a0 3) = (80 : Int32) then
      some ((-3 : Int32), I)
    else
      zbd (some (R a0 2)) fun o5 =>
      zbd (zdr K o5 1) fun a6 =>
      zbd (zwr K I a6 (I a0 3) x1) fun I9 =>
      zbd (some (zup I9 a0 3 ((I9 a0 3) + (1 : Int32)))) fun I10 =>
      some (I10 a0 3, I10)
/-! LeastPatternsModel.clear()I -/
def f_X7_clear (F : Nat) (K : zK) (I : zI) (R : zR) (a0 : Nat)  : Option (Int32 × zI) :=
  zbd (some (I a0 3)) fun v1 =>
  zbd (some (zup I a0 3 (0 : Int32))) fun I2 =>
  some (v1, I2)
/-! LeastPatternsModel.byteAt(I)I -/
def f_X7_byteAt (F : Nat) (K : zK) (I : zI) (R : zR) (a0 : Nat) (x1 : Int32) : Option (Int32) :=
  if (I a0 3) ≤ x1 then
    some (-9 : Int32)
  else
    zbd (some (R a0 2)) fun o2 =>
    zbd (zdr K o2 1) fun a3 =>
    zbd (zrd K I a3 x1) fun v6 =>
    some v6
/-! LeastPatternsModel.faults(II)Z -/
def f_X7_faults (F : Nat) (K : zK) (I : zI) (R : zR) (a0 : Nat) (x1 : Int32) (x2 : Int32) : Option (Int32 × zI) :=
  zbd (some (zup I a0 4 x1)) fun I1 =>
  zbd (some (zup I1 a0 13 x2)) fun I2 =>
  some ((0 : Int32), I2)
/-! LeastPatternsModel.begins()Z -/
def f_X7_begins_359 (F : Nat) (K : zK) (R : zR) (a0 : Nat)  (I : zI) (x4 : Int32) (s0 : Option Nat) (s1 : Int32) (s2 : Int32) : Option (Int32 × zI) :=
  zbd (zdr K s0 17) fun a1 =>
  zbd (some (zup I a1 13 (s1 + s2))) fun I4 =>
  zbd (f_X7_byteAt F K I4 R a0 (I4 a0 13)) fun v5 =>
  if v5 = (40 : Int32) then
    if x4 = (3 : Int32) then
      some ((1 : Int32), I4)
    else
      zbd (some (zup I4 a0 12 ((I4 a0 12) + (1 : Int32)))) fun I9 =>
      zbd (some (R a0 10)) fun o10 =>
      zbd (some (R a0 0)) fun o11 =>
      zbd (zdr K o11 1) fun a12 =>
      zbd (zrd K I9 a12 (5460 : Int32)) fun v15 =>
      zbd (zdr K o10 1) fun a16 =>
      zbd (zwr K I9 a16 (I9 a0 12) (v15 - (1 : Int32))) fun I19 =>
      zbd (some (R a0 11)) fun o20 =>
      zbd (zdr K o20 2) fun a21 =>
      zbd (zwrZ K I19 a21 (I19 a0 12) (0 : Int32)) fun I24 =>
      zbd (some (zup I24 a0 13 ((I24 a0 13) + (1 : Int32)))) fun I25 =>
      zbd (some (zup I25 a0 14 (1 : Int32))) fun I26 =>
      some ((1 : Int32), I26)
  else
    some ((1 : Int32), I4)
def f_X7_begins_343 (F : Nat) (K : zK) (R : zR) (a0 : Nat)  (I : zI) (x4 : Int32) : Option (Int32 × zI) :=
  if x4 = (3 : Int32) then
    f_X7_begins_359 F K R a0 I x4 (some a0) (I a0 13) (2 : Int32)
  else
    f_X7_begins_359 F K R a0 I x4 (some a0) (I a0 13) (1 : Int32)
def f_X7_begins_296 (F : Nat) (K : zK) (R : zR) (a0 : Nat)  (I : zI) (x4 : Int32) (s0 : Option Nat) (s1 : Int32) (s2 : Int32) (s3 : Int32) (s4 : Int32) : Option (Int32 × zI) :=
  zbd (zdr K s0 17) fun a28 =>
  zbd (f_X7_writes F K I R a28 s1 s2 s3 s4 (0 : Int32)) fun I31 =>
  zbd (some (R a0 0)) fun o33 =>
  zbd (zdr K o33 1) fun a34 =>
  zbd (zrd K I31 a34 (5460 : Int32)) fun v37 =>
  zbd (zwr K I31 a34 (5460 : Int32) (v37 + (1 : Int32))) fun I38 =>
  if (I38 a0 12) ≤ (0 : Int32) then
    f_X7_begins_343 F K R a0 I38 x4
  else
    zbd (some (R a0 0)) fun o40 =>
    zbd (some (R a0 10)) fun o41 =>
    zbd (zdr K o41 1) fun a42 =>
    zbd (zrd K I38 a42 (I38 a0 12)) fun v45 =>
    zbd (zdr K o40 1) fun a46 =>
    zbd (zrd K I38 a46 ((5463 : Int32) + ((3 : Int32) * v45))) fun v49 =>
    zbd (zwr K I38 a46 ((5463 : Int32) + ((3 : Int32) * v45)) (v49 + (1 : Int32))) fun I50 =>
    f_X7_begins_343 F K R a0 I50 x4
def f_X7_begins_266 (F : Nat) (K : zK) (R : zR) (a0 : Nat)  (I : zI) (x1 : Int32) (x2 : Int32) (x4 : Int32) (s0 : Option Nat) (s1 : Int32) (s2 : Int32) : Option (Int32 × zI) :=
  zbd (zdr K s0 2) fun a51 =>
  zbd (zwrZ K I a51 s1 s2) fun I54 =>
  zbd (some (R a0 0)) fun o55 =>
  zbd (zdr K o55 1) fun a56 =>
  zbd (zrd K I54 a56 (5460 : Int32)) fun v59 =>
  if x2 = (0 : Int32) then
    f_X7_begins_296 F K R a0 I54 x4 (some a0) (5460 : Int32) v59 x4 (x1 - (97 : Int32))
  else
    f_X7_begins_296 F K R a0 I54 x4 (some a0) (5460 : Int32) v59 x4 (x1 - (48 : Int32))
def f_X7_begins_261 (F : Nat) (K : zK) (R : zR) (a0 : Nat)  (I : zI) (x1 : Int32) (x2 : Int32) (x4 : Int32) (s0 : Option Nat) (s1 : Int32) : Option (Int32 × zI) :=
  f_X7_begins_266 F K R a0 I x1 x2 x4 s0 s1 (1 : Int32)
def f_X7_begins_235 (F : Nat) (K : zK) (R : zR) (a0 : Nat)  (I : zI) (x1 : Int32) (x2 : Int32) (x4 : Int32) : Option (Int32 × zI) :=
  zbd (some (R a0 11)) fun o61 =>
  zbd (some (R a0 11)) fun o62 =>
  zbd (zdr K o62 2) fun a63 =>
  zbd (zrd K I a63 (I a0 12)) fun v66 =>
  if v66 = (0 : Int32) then
    if x4 = (3 : Int32) then
      f_X7_begins_261 F K R a0 I x1 x2 x4 o61 (I a0 12)
    else
      f_X7_begins_266 F K R a0 I x1 x2 x4 o61 (I a0 12) (0 : Int32)
  else
    f_X7_begins_261 F K R a0 I x1 x2 x4 o61 (I a0 12)
def f_X7_begins_220 (F : Nat) (K : zK) (R : zR) (a0 : Nat)  (I : zI) (x1 : Int32) (x2 : Int32) (x4 : Int32) : Option (Int32 × zI) :=
  if x2 = (0 : Int32) then
    f_X7_begins_235 F K R a0 I x1 x2 x4
  else
    zbd (some (R a0 9)) fun o70 =>
    zbd (zdr K o70 1) fun a71 =>
    zbd (zwr K I a71 (x1 - (48 : Int32)) x4) fun I74 =>
    f_X7_begins_235 F K R a0 I74 x1 x2 x4
def f_X7_begins_210 (F : Nat) (K : zK) (R : zR) (a0 : Nat)  (I : zI) : Option (Int32 × zI) :=
  zbd2 (f_X7_faults F K I R a0 (4 : Int32) (I a0 13)) fun v75 I76 =>
  if v75 = 0 ∨ v75 = 1 then
  some (v75, I76)
  else
  none
def f_X7_begins_192 (F : Nat) (K : zK) (R : zR) (a0 : Nat)  (I : zI) (x1 : Int32) (x2 : Int32) (x4 : Int32) : Option (Int32 × zI) :=
  if x4 = (3 : Int32) then
    zbd (some (R a0 11)) fun o80 =>
    zbd (zdr K o80 2) fun a81 =>
    zbd (zrd K I a81 (I a0 12)) fun v84 =>
    if v84 = (0 : Int32) then
      f_X7_begins_220 F K R a0 I x1 x2 x4
    else
      f_X7_begins_210 F K R a0 I
  else
    f_X7_begins_220 F K R a0 I x1 x2 x4
def f_X7_begins_160 (F : Nat) (K : zK) (R : zR) (a0 : Nat)  (I : zI) (x1 : Int32) (x2 : Int32) (s0 : Int32) : Option (Int32 × zI) :=
  if x2 = (0 : Int32) then
    f_X7_begins_192 F K R a0 I x1 x2 s0
  else
    zbd (some (R a0 9)) fun o87 =>
    zbd (zdr K o87 1) fun a88 =>
    zbd (zrd K I a88 (x1 - (48 : Int32))) fun v91 =>
    if v91 ≤ (0 : Int32) then
      f_X7_begins_192 F K R a0 I x1 x2 s0
    else
      zbd (some (R a0 9)) fun o93 =>
      zbd (zdr K o93 1) fun a94 =>
      zbd (zrd K I a94 (x1 - (48 : Int32))) fun v97 =>
      if v97 = s0 then
        f_X7_begins_192 F K R a0 I x1 x2 s0
      else
        f_X7_begins_210 F K R a0 I
def f_X7_begins_159 (F : Nat) (K : zK) (R : zR) (a0 : Nat)  (I : zI) (x1 : Int32) (x2 : Int32) : Option (Int32 × zI) :=
  f_X7_begins_160 F K R a0 I x1 x2 (1 : Int32)
def f_X7_begins_103 (F : Nat) (K : zK) (R : zR) (a0 : Nat)  (I : zI) : Option (Int32 × zI) :=
  zbd2 (f_X7_faults F K I R a0 (3 : Int32) (I a0 13)) fun v99 I100 =>
  if v99 = 0 ∨ v99 = 1 then
  some (v99, I100)
  else
  none
def f_X7_begins_81 (F : Nat) (K : zK) (R : zR) (a0 : Nat)  (I : zI) (x1 : Int32) (x2 : Int32) : Option (Int32 × zI) :=
  zbd (some (R a0 0)) fun o103 =>
  zbd (zdr K o103 1) fun a104 =>
  zbd (zrd K I a104 (5460 : Int32)) fun v107 =>
  if v107 = (32 : Int32) then
    f_X7_begins_103 F K R a0 I
  else
    if (I a0 12) ≤ (7 : Int32) then
      zbd (f_X7_byteAt F K I R a0 ((I a0 13) + (1 : Int32))) fun v110 =>
      if x2 = (0 : Int32) then
        f_X7_begins_160 F K R a0 I x1 x2 (0 : Int32)
      else
        if v110 = (40 : Int32) then
          f_X7_begins_160 F K R a0 I x1 x2 (2 : Int32)
        else
          if v110 = (42 : Int32) then
            if (I a0 12) ≤ (0 : Int32) then
              f_X7_begins_159 F K R a0 I x1 x2
            else
              f_X7_begins_160 F K R a0 I x1 x2 (3 : Int32)
          else
            f_X7_begins_159 F K R a0 I x1 x2
    else
      f_X7_begins_103 F K R a0 I
def f_X7_begins_43 (F : Nat) (K : zK) (R : zR) (a0 : Nat)  (I : zI) (x1 : Int32) (x2 : Int32) : Option (Int32 × zI) :=
  if (I a0 12) ≤ (0 : Int32) then
    f_X7_begins_81 F K R a0 I x1 x2
  else
    zbd (some (R a0 10)) fun o117 =>
    zbd (zdr K o117 1) fun a118 =>
    zbd (zrd K I a118 (I a0 12)) fun v121 =>
    zbd (f_X7_arguments F K I R a0 (5460 : Int32) v121) fun v122 =>
    if v122 = (8 : Int32) then
      zbd2 (f_X7_faults F K I R a0 (2 : Int32) (I a0 13)) fun v125 I126 =>
      if v125 = 0 ∨ v125 = 1 then
      some (v125, I126)
      else
      none
    else
      f_X7_begins_81 F K R a0 I x1 x2
def f_X7_begins (F : Nat) (K : zK) (I : zI) (R : zR) (a0 : Nat)  : Option (Int32 × zI) :=
  zbd (f_X7_byteAt F K I R a0 (I a0 13)) fun v129 =>
  zbd (f_X7_in F K I R v129 (48 : Int32) (57 : Int32)) fun v131 =>
  if v131 = (0 : Int32) then
    zbd (f_X7_in F K I R v129 (97 : Int32) (109 : Int32)) fun v134 =>
    if v134 = (0 : Int32) then
      zbd2 (f_X7_faults F K I R a0 (1 : Int32) (I a0 13)) fun v137 I138 =>
      if v137 = 0 ∨ v137 = 1 then
      some (v137, I138)
      else
      none
    else
      f_X7_begins_43 F K R a0 I v129 v131
  else
    f_X7_begins_43 F K R a0 I v129 v131
/-! LeastPatternsModel.reads()Z -/
def f_X7_reads_191 (F : Nat) (K : zK) (R : zR) (a0 : Nat)  (I : zI) : Option (Int32 × zI) :=
  some ((1 : Int32), I)
def g_X7_reads_54 (F : Nat) (K : zK) (R : zR) (a0 : Nat)  (kself : zI → Int32 → Option (Int32 × zI)) (I : zI) (x1 : Int32) : Option (Int32 × zI) :=
  if x1 = (0 : Int32) then
    if (I a0 13) = (I a0 3) then
      f_X7_reads_191 F K R a0 I
    else
      zbd2 (f_X7_faults F K I R a0 (1 : Int32) (I a0 13)) fun v3 I4 =>
      if v3 = (0 : Int32) then
        some ((0 : Int32), I4)
      else
        f_X7_reads_191 F K R a0 I4
  else
    if (I a0 14) = (0 : Int32) then
      if (I a0 12) = (0 : Int32) then
        kself I (0 : Int32)
      else
        zbd (f_X7_byteAt F K I R a0 (I a0 13)) fun v9 =>
        if v9 = (44 : Int32) then
          zbd (some (zup I a0 13 ((I a0 13) + (1 : Int32)))) fun I21 =>
          zbd (some (zup I21 a0 14 (1 : Int32))) fun I22 =>
          kself I22 x1
        else
          zbd (f_X7_byteAt F K I R a0 (I a0 13)) fun v12 =>
          if v12 = (41 : Int32) then
            zbd (some (zup I a0 13 ((I a0 13) + (1 : Int32)))) fun I19 =>
            zbd (some (zup I19 a0 12 ((I19 a0 12) - (1 : Int32)))) fun I20 =>
            kself I20 x1
          else
            zbd2 (f_X7_faults F K I R a0 (1 : Int32) (I a0 13)) fun v15 I16 =>
            if v15 = 0 ∨ v15 = 1 then
            some (v15, I16)
            else
            none
    else
      zbd (some (zup I a0 14 (0 : Int32))) fun I23 =>
      zbd2 (f_X7_begins F K I23 R a0) fun v24 I25 =>
      if v24 = (0 : Int32) then
        some ((0 : Int32), I25)
      else
        kself I25 x1
def f_X7_reads_54 (F : Nat) (K : zK) (R : zR) (a0 : Nat)  : Nat → zI → Int32 → Option (Int32 × zI)
  | 0, _, _ => none
  | t + 1, I, x1 => g_X7_reads_54 F K R a0  (f_X7_reads_54 F K R a0  t) I x1
def g_X7_reads_21 (F : Nat) (K : zK) (R : zR) (a0 : Nat)  (kself : zI → Int32 → Option (Int32 × zI)) (I : zI) (x1 : Int32) : Option (Int32 × zI) :=
  if (10 : Int32) ≤ x1 then
    zbd (some (R a0 11)) fun o29 =>
    zbd (zdr K o29 2) fun a30 =>
    zbd (zwrZ K I a30 (0 : Int32) (0 : Int32)) fun I33 =>
    zbd (some (zup I33 a0 14 (1 : Int32))) fun I34 =>
    f_X7_reads_54 F K R a0 F I34 (1 : Int32)
  else
    zbd (some (R a0 9)) fun o35 =>
    zbd (zdr K o35 1) fun a36 =>
    zbd (zwr K I a36 x1 (0 : Int32)) fun I39 =>
    kself I39 (x1 + (1 : Int32))
def f_X7_reads_21 (F : Nat) (K : zK) (R : zR) (a0 : Nat)  : Nat → zI → Int32 → Option (Int32 × zI)
  | 0, _, _ => none
  | t + 1, I, x1 => g_X7_reads_21 F K R a0  (f_X7_reads_21 F K R a0  t) I x1
def f_X7_reads (F : Nat) (K : zK) (I : zI) (R : zR) (a0 : Nat)  : Option (Int32 × zI) :=
  zbd (some (R a0 0)) fun o40 =>
  zbd (zdr K o40 1) fun a41 =>
  zbd (zwr K I a41 (5460 : Int32) (0 : Int32)) fun I44 =>
  zbd (some (zup I44 a0 12 (0 : Int32))) fun I45 =>
  zbd (some (zup I45 a0 13 (0 : Int32))) fun I46 =>
  f_X7_reads_21 F K R a0 F I46 (0 : Int32)
/-! LeastPatternsModel.isSet(II)Z -/
def f_X7_isSet (F : Nat) (K : zK) (I : zI) (R : zR) (a0 : Nat) (x1 : Int32) (x2 : Int32) : Option (Int32) :=
  zbd (some (R a0 0)) fun o1 =>
  zbd (zdr K o1 1) fun a2 =>
  zbd (zrd K I a2 ((776 : Int32) + x1)) fun v5 =>
  if ((v5 >>> (x2 &&& 31)) &&& (1 : Int32)) = (1 : Int32) then
    some (1 : Int32)
  else
    some (0 : Int32)
/-! LeastPatternsModel.flattens()V -/
def f_X7_flattens_208 (F : Nat) (K : zK) (R : zR) (a0 : Nat) (k9 : zI → Int32 → Option (zI)) (I : zI) (x1 : Int32) : Option (zI) :=
  k9 I x1
def g_X7_flattens_140 (F : Nat) (K : zK) (R : zR) (a0 : Nat) (k9 : zI → Int32 → Option (zI)) (kself : zI → Int32 → Int32 → Option (zI)) (I : zI) (x1 : Int32) (x4 : Int32) : Option (zI) :=
  zbd (some (R a0 0)) fun o1 =>
  zbd (zdr K o1 1) fun a2 =>
  zbd (zrd K I a2 (5460 : Int32)) fun v5 =>
  if ((5461 : Int32) + ((3 : Int32) * v5)) ≤ (x4 + (3 : Int32)) then
    zbd (some (R a0 0)) fun o7 =>
    zbd (zdr K o7 1) fun a8 =>
    zbd (zrd K I a8 (5460 : Int32)) fun v11 =>
    zbd (zwr K I a8 (5460 : Int32) (v11 - (1 : Int32))) fun I12 =>
    zbd (f_X7_levels F K I12 R a0 (5460 : Int32)) fun I13 =>
    f_X7_flattens_208 F K R a0 k9 I13 x1
  else
    zbd (some (R a0 0)) fun o15 =>
    zbd (some (R a0 0)) fun o16 =>
    zbd (zdr K o16 1) fun a17 =>
    zbd (zrd K I a17 (x4 + (3 : Int32))) fun v20 =>
    zbd (zdr K o15 1) fun a21 =>
    zbd (zwr K I a21 x4 v20) fun I24 =>
    kself I24 x1 (x4 + (1 : Int32))
def f_X7_flattens_140 (F : Nat) (K : zK) (R : zR) (a0 : Nat) (k9 : zI → Int32 → Option (zI)) : Nat → zI → Int32 → Int32 → Option (zI)
  | 0, _, _, _ => none
  | t + 1, I, x1, x4 => g_X7_flattens_140 F K R a0 k9 (f_X7_flattens_140 F K R a0 k9 t) I x1 x4
def f_X7_flattens_101 (F : Nat) (K : zK) (R : zR) (a0 : Nat) (k9 : zI → Int32 → Option (zI)) (I : zI) (x1 : Int32) (x2 : Int32) (s0 : Int32) : Option (zI) :=
  if s0 = (0 : Int32) then
    f_X7_flattens_208 F K R a0 k9 I (x1 + (1 : Int32))
  else
    zbd (some (R a0 0)) fun o26 =>
    zbd (zdr K o26 1) fun a27 =>
    zbd (zrd K I a27 ((5463 : Int32) + ((3 : Int32) * x2))) fun v30 =>
    zbd (f_X7_arguments F K I R a0 (5460 : Int32) x1) fun v31 =>
    zbd (zwr K I a27 ((5463 : Int32) + ((3 : Int32) * x2)) (v30 + (v31 - (1 : Int32)))) fun I33 =>
    zbd (some ((5461 : Int32) + ((3 : Int32) * x1))) fun v34 =>
    f_X7_flattens_140 F K R a0 k9 F I33 x1 v34
def f_X7_flattens_100 (F : Nat) (K : zK) (R : zR) (a0 : Nat) (k9 : zI → Int32 → Option (zI)) (I : zI) (x1 : Int32) (x2 : Int32) : Option (zI) :=
  f_X7_flattens_101 F K R a0 k9 I x1 x2 (0 : Int32)
def g_X7_flattens_9 (F : Nat) (K : zK) (R : zR) (a0 : Nat)  (kself : zI → Int32 → Option (zI)) (I : zI) (x1 : Int32) : Option (zI) :=
  zbd (some (R a0 0)) fun o35 =>
  zbd (zdr K o35 1) fun a36 =>
  zbd (zrd K I a36 (5460 : Int32)) fun v39 =>
  if v39 ≤ x1 then
    some I
  else
    zbd (some (R a0 8)) fun o41 =>
    zbd (zdr K o41 1) fun a42 =>
    zbd (zrd K I a42 x1) fun v45 =>
    zbd (f_X7_sort F K I R a0 (5460 : Int32) x1) fun v46 =>
    if v46 = (0 : Int32) then
      zbd (f_X7_sort F K I R a0 (5460 : Int32) v45) fun v49 =>
      if v49 = (0 : Int32) then
        zbd (f_X7_number F K I R a0 (5460 : Int32) x1) fun v52 =>
        zbd (f_X7_number F K I R a0 (5460 : Int32) v45) fun v54 =>
        if v52 = v54 then
          zbd (f_X7_arguments F K I R a0 (5460 : Int32) x1) fun v57 =>
          if v57 ≤ (0 : Int32) then
            f_X7_flattens_100 F K R a0 kself I x1 v45
          else
            zbd (f_X7_number F K I R a0 (5460 : Int32) x1) fun v60 =>
            zbd (f_X7_isSet F K I R a0 (2 : Int32) v60) fun v62 =>
            if v62 = (0 : Int32) then
              f_X7_flattens_100 F K R a0 kself I x1 v45
            else
              f_X7_flattens_101 F K R a0 kself I x1 v45 (1 : Int32)
        else
          f_X7_flattens_100 F K R a0 kself I x1 v45
      else
        f_X7_flattens_100 F K R a0 kself I x1 v45
    else
      f_X7_flattens_100 F K R a0 kself I x1 v45
def f_X7_flattens_9 (F : Nat) (K : zK) (R : zR) (a0 : Nat)  : Nat → zI → Int32 → Option (zI)
  | 0, _, _ => none
  | t + 1, I, x1 => g_X7_flattens_9 F K R a0  (f_X7_flattens_9 F K R a0  t) I x1
def f_X7_flattens (F : Nat) (K : zK) (I : zI) (R : zR) (a0 : Nat)  : Option (zI) :=
  zbd (f_X7_levels F K I R a0 (5460 : Int32)) fun I65 =>
  f_X7_flattens_9 F K R a0 F I65 (1 : Int32)
/-! LeastPatternsModel.isSound()Z -/
def f_X7_isSound_116 (F : Nat) (K : zK) (R : zR) (a0 : Nat) (k15 : zI → Int32 → Int32 → Option (Int32 × zI)) (I : zI) (x2 : Int32) (s0 : Int32) : Option (Int32 × zI) :=
  k15 I s0 (x2 + (1 : Int32))
def f_X7_isSound_115 (F : Nat) (K : zK) (R : zR) (a0 : Nat) (k15 : zI → Int32 → Int32 → Option (Int32 × zI)) (I : zI) (x2 : Int32) : Option (Int32 × zI) :=
  f_X7_isSound_116 F K R a0 k15 I x2 (0 : Int32)
def f_X7_isSound_69 (F : Nat) (K : zK) (R : zR) (a0 : Nat) (k15 : zI → Int32 → Int32 → Option (Int32 × zI)) (k37 : zI → Int32 → Int32 → Int32 → Int32 → Int32 → Option (Int32 × zI)) (I : zI) (x1 : Int32) (x2 : Int32) (x4 : Int32) (x5 : Int32) (s0 : Int32) (s1 : Int32) : Option (Int32 × zI) :=
  zbd (some (s0 + s1)) fun v1 =>
  zbd (some (R a0 5)) fun o2 =>
  zbd (zdr K o2 1) fun a3 =>
  zbd (zrd K I a3 x4) fun v6 =>
  zbd (some (x4 + v6)) fun v7 =>
  k37 I x1 x2 v1 v7 (x5 + (1 : Int32))
def g_X7_isSound_37 (F : Nat) (K : zK) (R : zR) (a0 : Nat) (k15 : zI → Int32 → Int32 → Option (Int32 × zI)) (kself : zI → Int32 → Int32 → Int32 → Int32 → Int32 → Option (Int32 × zI)) (I : zI) (x1 : Int32) (x2 : Int32) (x3 : Int32) (x4 : Int32) (x5 : Int32) : Option (Int32 × zI) :=
  zbd (f_X7_arguments F K I R a0 (5460 : Int32) x2) fun v8 =>
  if v8 ≤ x5 then
    if x1 = (0 : Int32) then
      f_X7_isSound_115 F K R a0 k15 I x2
    else
      zbd (f_X7_arguments F K I R a0 (5460 : Int32) x2) fun v12 =>
      if (8 : Int32) < v12 then
        f_X7_isSound_115 F K R a0 k15 I x2
      else
        if (2 : Int32) ≤ x3 then
          f_X7_isSound_115 F K R a0 k15 I x2
        else
          f_X7_isSound_116 F K R a0 k15 I x2 (1 : Int32)
  else
    zbd (f_X7_sort F K I R a0 (5460 : Int32) x4) fun v16 =>
    if v16 = (3 : Int32) then
      f_X7_isSound_69 F K R a0 k15 kself I x1 x2 x4 x5 x3 (1 : Int32)
    else
      f_X7_isSound_69 F K R a0 k15 kself I x1 x2 x4 x5 x3 (0 : Int32)
def f_X7_isSound_37 (F : Nat) (K : zK) (R : zR) (a0 : Nat) (k15 : zI → Int32 → Int32 → Option (Int32 × zI)) : Nat → zI → Int32 → Int32 → Int32 → Int32 → Int32 → Option (Int32 × zI)
  | 0, _, _, _, _, _, _ => none
  | t + 1, I, x1, x2, x3, x4, x5 => g_X7_isSound_37 F K R a0 k15 (f_X7_isSound_37 F K R a0 k15 t) I x1 x2 x3 x4 x5
def g_X7_isSound_15 (F : Nat) (K : zK) (R : zR) (a0 : Nat)  (kself : zI → Int32 → Int32 → Option (Int32 × zI)) (I : zI) (x1 : Int32) (x2 : Int32) : Option (Int32 × zI) :=
  zbd (some (R a0 0)) fun o19 =>
  zbd (zdr K o19 1) fun a20 =>
  zbd (zrd K I a20 (5460 : Int32)) fun v23 =>
  if v23 ≤ x2 then
    if x1 = 0 ∨ x1 = 1 then
    some (x1, I)
    else
    none
  else
    zbd (some (x2 + (1 : Int32))) fun v26 =>
    f_X7_isSound_37 F K R a0 kself F I x1 x2 (0 : Int32) v26 (0 : Int32)
def f_X7_isSound_15 (F : Nat) (K : zK) (R : zR) (a0 : Nat)  : Nat → zI → Int32 → Int32 → Option (Int32 × zI)
  | 0, _, _, _ => none
  | t + 1, I, x1, x2 => g_X7_isSound_15 F K R a0  (f_X7_isSound_15 F K R a0  t) I x1 x2
def f_X7_isSound (F : Nat) (K : zK) (I : zI) (R : zR) (a0 : Nat)  : Option (Int32 × zI) :=
  zbd (some (R a0 5)) fun o27 =>
  zbd (f_X7_counts F K I R a0 (5460 : Int32) o27) fun I28 =>
  f_X7_isSound_15 F K R a0 F I28 (1 : Int32) (0 : Int32)
/-! LeastPatternsModel.order(II)I -/
def g_X7_order_31 (F : Nat) (K : zK) (I : zI) (R : zR) (a0 : Nat)  (kself : Int32 → Int32 → Int32 → Option (Int32)) (x1 : Int32) (x2 : Int32) (x3 : Int32) : Option (Int32) :=
  zbd (some (R a0 5)) fun o1 =>
  zbd (zdr K o1 1) fun a2 =>
  zbd (zrd K I a2 x1) fun v5 =>
  if ((3 : Int32) * v5) ≤ x3 then
    some (0 : Int32)
  else
    zbd (some (R a0 0)) fun o7 =>
    zbd (zdr K o7 1) fun a8 =>
    zbd (zrd K I a8 (((5461 : Int32) + ((3 : Int32) * x1)) + x3)) fun v11 =>
    zbd (some (R a0 0)) fun o12 =>
    zbd (zdr K o12 1) fun a13 =>
    zbd (zrd K I a13 (((5461 : Int32) + ((3 : Int32) * x2)) + x3)) fun v16 =>
    zbd (some (v11 - v16)) fun v17 =>
    if v17 = (0 : Int32) then
      kself x1 x2 (x3 + (1 : Int32))
    else
      some v17
def f_X7_order_31 (F : Nat) (K : zK) (I : zI) (R : zR) (a0 : Nat)  : Nat → Int32 → Int32 → Int32 → Option (Int32)
  | 0, _, _, _ => none
  | t + 1, x1, x2, x3 => g_X7_order_31 F K I R a0  (f_X7_order_31 F K I R a0  t) x1 x2 x3
def f_X7_order (F : Nat) (K : zK) (I : zI) (R : zR) (a0 : Nat) (x1 : Int32) (x2 : Int32) : Option (Int32) :=
  zbd (some (R a0 5)) fun o19 =>
  zbd (zdr K o19 1) fun a20 =>
  zbd (zrd K I a20 x1) fun v23 =>
  zbd (some (R a0 5)) fun o24 =>
  zbd (zdr K o24 1) fun a25 =>
  zbd (zrd K I a25 x2) fun v28 =>
  if v23 = v28 then
    f_X7_order_31 F K I R a0 F x1 x2 (0 : Int32)
  else
    zbd (some (R a0 5)) fun o30 =>
    zbd (zdr K o30 1) fun a31 =>
    zbd (zrd K I a31 x1) fun v34 =>
    zbd (some (R a0 5)) fun o35 =>
    zbd (zdr K o35 1) fun a36 =>
    zbd (zrd K I a36 x2) fun v39 =>
    some (v34 - v39)
/-! LeastPatternsModel.sorted(I)V -/
def g_X7_sorted_203 (F : Nat) (K : zK) (R : zR) (a0 : Nat)  (kself : zI → Int32 → Int32 → Option (zI)) (I : zI) (x3 : Int32) (x4 : Int32) : Option (zI) :=
  if x3 ≤ x4 then
    some I
  else
    zbd (f_X7_sort F K I R a0 (5557 : Int32) x4) fun v2 =>
    zbd (f_X7_number F K I R a0 (5557 : Int32) x4) fun v4 =>
    zbd (f_X7_arguments F K I R a0 (5557 : Int32) x4) fun v6 =>
    zbd (f_X7_writes F K I R a0 (5460 : Int32) x4 v2 v4 v6) fun I8 =>
    kself I8 x3 (x4 + (1 : Int32))
def f_X7_sorted_203 (F : Nat) (K : zK) (R : zR) (a0 : Nat)  : Nat → zI → Int32 → Int32 → Option (zI)
  | 0, _, _, _ => none
  | t + 1, I, x3, x4 => g_X7_sorted_203 F K R a0  (f_X7_sorted_203 F K R a0  t) I x3 x4
def g_X7_sorted_107 (F : Nat) (K : zK) (R : zR) (a0 : Nat) (k98 : zI → Int32 → Int32 → Int32 → Int32 → Option (zI)) (kself : zI → Int32 → Int32 → Int32 → Int32 → Int32 → Option (zI)) (I : zI) (x1 : Int32) (x2 : Int32) (x3 : Int32) (x4 : Int32) (x5 : Int32) : Option (zI) :=
  zbd (some (R a0 5)) fun o10 =>
  zbd (some (R a0 15)) fun o11 =>
  zbd (zdr K o11 1) fun a12 =>
  zbd (zrd K I a12 x4) fun v15 =>
  zbd (zdr K o10 1) fun a16 =>
  zbd (zrd K I a16 v15) fun v19 =>
  if v19 ≤ x5 then
    k98 I x1 x2 x3 (x4 + (1 : Int32))
  else
    zbd (some (R a0 15)) fun o21 =>
    zbd (zdr K o21 1) fun a22 =>
    zbd (zrd K I a22 x4) fun v25 =>
    zbd (f_X7_sort F K I R a0 (5460 : Int32) (v25 + x5)) fun v26 =>
    zbd (some (R a0 15)) fun o28 =>
    zbd (zdr K o28 1) fun a29 =>
    zbd (zrd K I a29 x4) fun v32 =>
    zbd (f_X7_number F K I R a0 (5460 : Int32) (v32 + x5)) fun v33 =>
    zbd (some (R a0 15)) fun o35 =>
    zbd (zdr K o35 1) fun a36 =>
    zbd (zrd K I a36 x4) fun v39 =>
    zbd (f_X7_arguments F K I R a0 (5460 : Int32) (v39 + x5)) fun v40 =>
    zbd (f_X7_writes F K I R a0 (5557 : Int32) x3 v26 v33 v40) fun I42 =>
    kself I42 x1 x2 (x3 + (1 : Int32)) x4 (x5 + (1 : Int32))
def f_X7_sorted_107 (F : Nat) (K : zK) (R : zR) (a0 : Nat) (k98 : zI → Int32 → Int32 → Int32 → Int32 → Option (zI)) : Nat → zI → Int32 → Int32 → Int32 → Int32 → Int32 → Option (zI)
  | 0, _, _, _, _, _, _ => none
  | t + 1, I, x1, x2, x3, x4, x5 => g_X7_sorted_107 F K R a0 k98 (f_X7_sorted_107 F K R a0 k98 t) I x1 x2 x3 x4 x5
def g_X7_sorted_98 (F : Nat) (K : zK) (R : zR) (a0 : Nat)  (kself : zI → Int32 → Int32 → Int32 → Int32 → Option (zI)) (I : zI) (x1 : Int32) (x2 : Int32) (x3 : Int32) (x4 : Int32) : Option (zI) :=
  if x2 ≤ x4 then
    zbd (some (x1 + (1 : Int32))) fun v45 =>
    f_X7_sorted_203 F K R a0 F I x3 v45
  else
    f_X7_sorted_107 F K R a0 kself F I x1 x2 x3 x4 (0 : Int32)
def f_X7_sorted_98 (F : Nat) (K : zK) (R : zR) (a0 : Nat)  : Nat → zI → Int32 → Int32 → Int32 → Int32 → Option (zI)
  | 0, _, _, _, _, _ => none
  | t + 1, I, x1, x2, x3, x4 => g_X7_sorted_98 F K R a0  (f_X7_sorted_98 F K R a0  t) I x1 x2 x3 x4
def f_X7_sorted_76 (F : Nat) (K : zK) (R : zR) (a0 : Nat) (k11 : zI → Int32 → Int32 → Int32 → Option (zI)) (I : zI) (x1 : Int32) (x2 : Int32) (x3 : Int32) (x4 : Int32) (x5 : Int32) : Option (zI) :=
  zbd (some (R a0 15)) fun o46 =>
  zbd (zdr K o46 1) fun a47 =>
  zbd (zwr K I a47 x5 x4) fun I50 =>
  k11 I50 x1 x2 (x3 + (1 : Int32))
def g_X7_sorted_31 (F : Nat) (K : zK) (R : zR) (a0 : Nat) (k11 : zI → Int32 → Int32 → Int32 → Option (zI)) (kself : zI → Int32 → Int32 → Int32 → Int32 → Int32 → Option (zI)) (I : zI) (x1 : Int32) (x2 : Int32) (x3 : Int32) (x4 : Int32) (x5 : Int32) : Option (zI) :=
  if x5 ≤ (0 : Int32) then
    f_X7_sorted_76 F K R a0 k11 I x1 x2 x3 x4 x5
  else
    zbd (some (R a0 15)) fun o52 =>
    zbd (zdr K o52 1) fun a53 =>
    zbd (zrd K I a53 (x5 - (1 : Int32))) fun v56 =>
    zbd (f_X7_order F K I R a0 v56 x4) fun v57 =>
    if v57 ≤ (0 : Int32) then
      f_X7_sorted_76 F K R a0 k11 I x1 x2 x3 x4 x5
    else
      zbd (some (R a0 15)) fun o60 =>
      zbd (some (R a0 15)) fun o61 =>
      zbd (zdr K o61 1) fun a62 =>
      zbd (zrd K I a62 (x5 - (1 : Int32))) fun v65 =>
      zbd (zdr K o60 1) fun a66 =>
      zbd (zwr K I a66 x5 v65) fun I69 =>
      kself I69 x1 x2 x3 x4 (x5 + (-1 : Int32))
def f_X7_sorted_31 (F : Nat) (K : zK) (R : zR) (a0 : Nat) (k11 : zI → Int32 → Int32 → Int32 → Option (zI)) : Nat → zI → Int32 → Int32 → Int32 → Int32 → Int32 → Option (zI)
  | 0, _, _, _, _, _, _ => none
  | t + 1, I, x1, x2, x3, x4, x5 => g_X7_sorted_31 F K R a0 k11 (f_X7_sorted_31 F K R a0 k11 t) I x1 x2 x3 x4 x5
def g_X7_sorted_11 (F : Nat) (K : zK) (R : zR) (a0 : Nat)  (kself : zI → Int32 → Int32 → Int32 → Option (zI)) (I : zI) (x1 : Int32) (x2 : Int32) (x3 : Int32) : Option (zI) :=
  if x2 ≤ x3 then
    zbd (some (x1 + (1 : Int32))) fun v71 =>
    f_X7_sorted_98 F K R a0 F I x1 x2 v71 (0 : Int32)
  else
    zbd (some (R a0 5)) fun o72 =>
    zbd (f_X7_child F K I R a0 x1 x3 o72) fun v73 =>
    f_X7_sorted_31 F K R a0 kself F I x1 x2 x3 v73 x3
def f_X7_sorted_11 (F : Nat) (K : zK) (R : zR) (a0 : Nat)  : Nat → zI → Int32 → Int32 → Int32 → Option (zI)
  | 0, _, _, _, _ => none
  | t + 1, I, x1, x2, x3 => g_X7_sorted_11 F K R a0  (f_X7_sorted_11 F K R a0  t) I x1 x2 x3
def f_X7_sorted (F : Nat) (K : zK) (I : zI) (R : zR) (a0 : Nat) (x1 : Int32) : Option (zI) :=
  zbd (f_X7_arguments F K I R a0 (5460 : Int32) x1) fun v75 =>
  f_X7_sorted_11 F K R a0 F I x1 v75 (0 : Int32)
/-! LeastPatternsModel.sortsAll()V -/
def f_X7_sortsAll_75 (F : Nat) (K : zK) (R : zR) (a0 : Nat) (k11 : zI → Int32 → Option (zI)) (I : zI) (x1 : Int32) : Option (zI) :=
  k11 I (x1 + (-1 : Int32))
def g_X7_sortsAll_11 (F : Nat) (K : zK) (R : zR) (a0 : Nat)  (kself : zI → Int32 → Option (zI)) (I : zI) (x1 : Int32) : Option (zI) :=
  if x1 < (0 : Int32) then
    some I
  else
    zbd (some (R a0 5)) fun o2 =>
    zbd (f_X7_counts F K I R a0 (5460 : Int32) o2) fun I3 =>
    zbd (f_X7_sort F K I3 R a0 (5460 : Int32) x1) fun v5 =>
    if v5 = (0 : Int32) then
      zbd (f_X7_number F K I3 R a0 (5460 : Int32) x1) fun v8 =>
      zbd (f_X7_isSet F K I3 R a0 (3 : Int32) v8) fun v10 =>
      if v10 = (0 : Int32) then
        f_X7_sortsAll_75 F K R a0 kself I3 x1
      else
        zbd (some (R a0 5)) fun o13 =>
        zbd (f_X7_sequenceOf F K I3 R a0 (5460 : Int32) x1 o13) fun v14 =>
        if v14 = (-9 : Int32) then
          zbd (f_X7_sorted F K I3 R a0 x1) fun I17 =>
          f_X7_sortsAll_75 F K R a0 kself I17 x1
        else
          f_X7_sortsAll_75 F K R a0 kself I3 x1
    else
      f_X7_sortsAll_75 F K R a0 kself I3 x1
def f_X7_sortsAll_11 (F : Nat) (K : zK) (R : zR) (a0 : Nat)  : Nat → zI → Int32 → Option (zI)
  | 0, _, _ => none
  | t + 1, I, x1 => g_X7_sortsAll_11 F K R a0  (f_X7_sortsAll_11 F K R a0  t) I x1
def f_X7_sortsAll (F : Nat) (K : zK) (I : zI) (R : zR) (a0 : Nat)  : Option (zI) :=
  zbd (some (R a0 0)) fun o19 =>
  zbd (zdr K o19 1) fun a20 =>
  zbd (zrd K I a20 (5460 : Int32)) fun v23 =>
  zbd (some (v23 - (1 : Int32))) fun v24 =>
  f_X7_sortsAll_11 F K R a0 F I v24
/-! LeastPatternsModel.isRegister(I)Z -/
def f_X7_isRegister (F : Nat) (K : zK) (I : zI) (R : zR) (x0 : Int32) : Option (Int32) :=
  zbd (f_X7_in F K I R x0 (0 : Int32) (7 : Int32)) fun v1 =>
  if v1 = 0 ∨ v1 = 1 then
  some v1
  else
  none
/-! LeastPatternsModel.isEmpty(I)Z -/
def f_X7_isEmpty (F : Nat) (K : zK) (I : zI) (R : zR) (a0 : Nat) (x1 : Int32) : Option (Int32) :=
  zbd (some (R a0 0)) fun o1 =>
  zbd (zdr K o1 1) fun a2 =>
  zbd (zrd K I a2 ((97 : Int32) * x1)) fun v5 =>
  if v5 = (0 : Int32) then
    some (1 : Int32)
  else
    some (0 : Int32)
/-! LeastPatternsModel.puts(II)I -/
def f_X7_puts (F : Nat) (K : zK) (I : zI) (R : zR) (a0 : Nat) (x1 : Int32) (x2 : Int32) : Option (Int32 × zI) :=
  zbd (f_X7_copies F K I R a0 x1 ((97 : Int32) * x2)) fun I1 =>
  zbd (some (R a0 0)) fun o3 =>
  zbd (zdr K o3 1) fun a4 =>
  zbd (zrd K I1 a4 ((97 : Int32) * x2)) fun v7 =>
  some (v7, I1)
/-! LeastPatternsModel.put(I)I -/
def f_X7_put (F : Nat) (K : zK) (I : zI) (R : zR) (a0 : Nat) (x1 : Int32) : Option (Int32 × zI) :=
  zbd (f_X7_isRegister F K I R x1) fun v1 =>
  if v1 = (0 : Int32) then
    some ((-1 : Int32), I)
  else
    zbd (some (zup I a0 4 (-9 : Int32))) fun I4 =>
    zbd2 (f_X7_reads F K I4 R a0) fun v5 I6 =>
    if v5 = (0 : Int32) then
      some ((-10 : Int32) - (I6 a0 13), I6)
    else
      zbd (f_X7_flattens F K I6 R a0) fun I9 =>
      zbd2 (f_X7_isSound F K I9 R a0) fun v11 I12 =>
      if v11 = (0 : Int32) then
        zbd (some (zup I12 a0 4 (5 : Int32))) fun I22 =>
        some ((-10 : Int32) - (I22 a0 3), I22)
      else
        zbd (f_X7_sortsAll F K I12 R a0) fun I15 =>
        zbd (f_X7_records F K I15 R a0) fun I17 =>
        zbd2 (f_X7_puts F K I17 R a0 (5460 : Int32) x1) fun v19 I20 =>
        some (v19, I20)
/-! LeastPatternsModel.fault()I -/
def f_X7_fault (F : Nat) (K : zK) (I : zI) (R : zR) (a0 : Nat)  : Option (Int32) :=
  some (I a0 4)
/-! LeastPatternsModel.empty(I)I -/
def f_X7_empty (F : Nat) (K : zK) (I : zI) (R : zR) (a0 : Nat) (x1 : Int32) : Option (Int32 × zI) :=
  zbd (f_X7_isRegister F K I R x1) fun v1 =>
  if v1 = (0 : Int32) then
    some ((-1 : Int32), I)
  else
    zbd (f_X7_isEmpty F K I R a0 x1) fun v4 =>
    if v4 = (0 : Int32) then
      zbd (f_X7_records F K I R a0) fun I7 =>
      zbd (some (R a0 0)) fun o9 =>
      zbd (zdr K o9 1) fun a10 =>
      zbd (zrd K I7 a10 ((97 : Int32) * x1)) fun v13 =>
      zbd (some (R a0 0)) fun o14 =>
      zbd (zdr K o14 1) fun a15 =>
      zbd (zwr K I7 a15 ((97 : Int32) * x1) (0 : Int32)) fun I18 =>
      some (v13, I18)
    else
      some ((-2 : Int32), I)
/-! LeastPatternsModel.set(II)I -/
def f_X7_set_23 (F : Nat) (K : zK) (R : zR) (a0 : Nat)  (I : zI) (x1 : Int32) (x2 : Int32) (s0 : Int32) (s1 : Int32) (s2 : Int32) : Option (Int32 × zI) :=
  zbd (f_X7_in F K I R s0 s1 s2) fun v1 =>
  if v1 = (0 : Int32) then
    some ((-1 : Int32), I)
  else
    zbd (f_X7_records F K I R a0) fun I4 =>
    zbd (some (R a0 0)) fun o6 =>
    zbd (zdr K o6 1) fun a7 =>
    zbd (zrd K I4 a7 ((776 : Int32) + x1)) fun v10 =>
    zbd (some (R a0 0)) fun o11 =>
    zbd (zdr K o11 1) fun a12 =>
    zbd (zwr K I4 a12 ((776 : Int32) + x1) x2) fun I15 =>
    some (v10, I15)
def f_X7_set (F : Nat) (K : zK) (I : zI) (R : zR) (a0 : Nat) (x1 : Int32) (x2 : Int32) : Option (Int32 × zI) :=
  zbd (f_X7_in F K I R x1 (0 : Int32) (3 : Int32)) fun v16 =>
  if v16 = (0 : Int32) then
    some ((-1 : Int32), I)
  else
    if (2 : Int32) ≤ x1 then
      f_X7_set_23 F K R a0 I x1 x2 x2 (0 : Int32) (8191 : Int32)
    else
      f_X7_set_23 F K R a0 I x1 x2 x2 (0 : Int32) (1 : Int32)
/-! LeastPatternsModel.nodeOf(III)I -/
def f_X7_nodeOf (F : Nat) (K : zK) (I : zI) (R : zR) (a0 : Nat) (x1 : Int32) (x2 : Int32) (x3 : Int32) : Option (Int32 × zI) :=
  zbd (f_X7_levels F K I R a0 ((97 : Int32) * x1)) fun I1 =>
  if x3 = 0 then
    zbd (f_X7_sort F K I1 R a0 ((97 : Int32) * x1) x2) fun v3 =>
    some (v3, I1)
  else
  if x3 = 1 then
    zbd (f_X7_number F K I1 R a0 ((97 : Int32) * x1) x2) fun v6 =>
    some (v6, I1)
  else
  if x3 = 2 then
    zbd (f_X7_arguments F K I1 R a0 ((97 : Int32) * x1) x2) fun v9 =>
    some (v9, I1)
  else
  if x3 = 3 then
    zbd (some (R a0 7)) fun o12 =>
    zbd (zdr K o12 1) fun a13 =>
    zbd (zrd K I1 a13 x2) fun v16 =>
    some (v16, I1)
  else
    zbd (some (R a0 5)) fun o18 =>
    zbd (zdr K o18 1) fun a19 =>
    zbd (zrd K I1 a19 x2) fun v22 =>
    some (v22, I1)
/-! LeastPatternsModel.node(III)I -/
def f_X7_node (F : Nat) (K : zK) (I : zI) (R : zR) (a0 : Nat) (x1 : Int32) (x2 : Int32) (x3 : Int32) : Option (Int32 × zI) :=
  zbd (f_X7_isRegister F K I R x1) fun v1 =>
  if v1 = (0 : Int32) then
    some ((-1 : Int32), I)
  else
    if x2 < (0 : Int32) then
      some ((-1 : Int32), I)
    else
      zbd (f_X7_in F K I R x3 (0 : Int32) (4 : Int32)) fun v5 =>
      if v5 = (0 : Int32) then
        some ((-1 : Int32), I)
      else
        zbd (f_X7_isEmpty F K I R a0 x1) fun v8 =>
        if v8 = (0 : Int32) then
          zbd (some (R a0 0)) fun o11 =>
          zbd (zdr K o11 1) fun a12 =>
          zbd (zrd K I a12 ((97 : Int32) * x1)) fun v15 =>
          if v15 ≤ x2 then
            some ((-9 : Int32), I)
          else
            zbd2 (f_X7_nodeOf F K I R a0 x1 x2 x3) fun v17 I18 =>
            some (v17, I18)
        else
          some ((-2 : Int32), I)
/-! LeastPatternsModel.holesOf(I)I -/
def f_X7_holesOf_36 (F : Nat) (K : zK) (I : zI) (R : zR) (a0 : Nat) (k4 : Int32 → Int32 → Int32 → Option (Int32)) (x1 : Int32) (x3 : Int32) (s0 : Int32) (s1 : Int32) : Option (Int32) :=
  zbd (some (s0 ||| s1)) fun v1 =>
  k4 x1 v1 (x3 + (1 : Int32))
def g_X7_holesOf_4 (F : Nat) (K : zK) (I : zI) (R : zR) (a0 : Nat)  (kself : Int32 → Int32 → Int32 → Option (Int32)) (x1 : Int32) (x2 : Int32) (x3 : Int32) : Option (Int32) :=
  zbd (some (R a0 0)) fun o2 =>
  zbd (zdr K o2 1) fun a3 =>
  zbd (zrd K I a3 x1) fun v6 =>
  if v6 ≤ x3 then
    some x2
  else
    zbd (f_X7_sort F K I R a0 x1 x3) fun v8 =>
    if v8 = (0 : Int32) then
      f_X7_holesOf_36 F K I R a0 kself x1 x3 x2 (0 : Int32)
    else
      zbd (f_X7_number F K I R a0 x1 x3) fun v11 =>
      f_X7_holesOf_36 F K I R a0 kself x1 x3 x2 ((1 : Int32) <<< (v11 &&& 31))
def f_X7_holesOf_4 (F : Nat) (K : zK) (I : zI) (R : zR) (a0 : Nat)  : Nat → Int32 → Int32 → Int32 → Option (Int32)
  | 0, _, _, _ => none
  | t + 1, x1, x2, x3 => g_X7_holesOf_4 F K I R a0  (f_X7_holesOf_4 F K I R a0  t) x1 x2 x3
def f_X7_holesOf (F : Nat) (K : zK) (I : zI) (R : zR) (a0 : Nat) (x1 : Int32) : Option (Int32) :=
  f_X7_holesOf_4 F K I R a0 F x1 (0 : Int32) (0 : Int32)
/-! LeastPatternsModel.sizeOf(II)I -/
def g_X7_sizeOf_98 (F : Nat) (K : zK) (R : zR) (a0 : Nat)  (kself : zI → Int32 → Int32 → Int32 → Int32 → Int32 → Int32 → Int32 → Int32 → Option (Int32 × zI)) (I : zI) (x2 : Int32) (x3 : Int32) (x4 : Int32) (x5 : Int32) (x6 : Int32) (x7 : Int32) (x8 : Int32) (x9 : Int32) : Option (Int32 × zI) :=
  if (10 : Int32) ≤ x9 then
    if x2 = (0 : Int32) then
      zbd (some (R a0 0)) fun o6 =>
      zbd (zdr K o6 1) fun a7 =>
      zbd (zrd K I a7 x3) fun v10 =>
      some (v10, I)
    else
      if x2 = (1 : Int32) then
        some (x5, I)
      else
        if x2 = (2 : Int32) then
          some (x7, I)
        else
          if x2 = (3 : Int32) then
            some (x6, I)
          else
            some (x8, I)
  else
    zbd (some (x7 + ((x4 >>> (x9 &&& 31)) &&& (1 : Int32)))) fun v11 =>
    zbd (some (x8 + (((x4 >>> (x9 &&& 31)) &&& (1 : Int32)) * x9))) fun v12 =>
    kself I x2 x3 x4 x5 x6 v11 v12 (x9 + (1 : Int32))
def f_X7_sizeOf_98 (F : Nat) (K : zK) (R : zR) (a0 : Nat)  : Nat → zI → Int32 → Int32 → Int32 → Int32 → Int32 → Int32 → Int32 → Int32 → Option (Int32 × zI)
  | 0, _, _, _, _, _, _, _, _, _ => none
  | t + 1, I, x2, x3, x4, x5, x6, x7, x8, x9 => g_X7_sizeOf_98 F K R a0  (f_X7_sizeOf_98 F K R a0  t) I x2 x3 x4 x5 x6 x7 x8 x9
def f_X7_sizeOf_81 (F : Nat) (K : zK) (R : zR) (a0 : Nat) (k26 : zI → Int32 → Int32 → Int32 → Int32 → Int32 → Int32 → Option (Int32 × zI)) (I : zI) (x2 : Int32) (x3 : Int32) (x4 : Int32) (x5 : Int32) (x7 : Int32) (s0 : Int32) : Option (Int32 × zI) :=
  k26 I x2 x3 x4 x5 s0 (x7 + (1 : Int32))
def f_X7_sizeOf_54 (F : Nat) (K : zK) (R : zR) (a0 : Nat) (k26 : zI → Int32 → Int32 → Int32 → Int32 → Int32 → Int32 → Option (Int32 × zI)) (I : zI) (x2 : Int32) (x3 : Int32) (x4 : Int32) (x6 : Int32) (x7 : Int32) (s0 : Int32) (s1 : Int32) : Option (Int32 × zI) :=
  zbd (some (s0 + s1)) fun v13 =>
  zbd (some (R a0 7)) fun o14 =>
  zbd (zdr K o14 1) fun a15 =>
  zbd (zrd K I a15 x7) fun v18 =>
  if v18 ≤ x6 then
    f_X7_sizeOf_81 F K R a0 k26 I x2 x3 x4 v13 x7 x6
  else
    zbd (some (R a0 7)) fun o20 =>
    zbd (zdr K o20 1) fun a21 =>
    zbd (zrd K I a21 x7) fun v24 =>
    f_X7_sizeOf_81 F K R a0 k26 I x2 x3 x4 v13 x7 v24
def g_X7_sizeOf_26 (F : Nat) (K : zK) (R : zR) (a0 : Nat)  (kself : zI → Int32 → Int32 → Int32 → Int32 → Int32 → Int32 → Option (Int32 × zI)) (I : zI) (x2 : Int32) (x3 : Int32) (x4 : Int32) (x5 : Int32) (x6 : Int32) (x7 : Int32) : Option (Int32 × zI) :=
  zbd (some (R a0 0)) fun o25 =>
  zbd (zdr K o25 1) fun a26 =>
  zbd (zrd K I a26 x3) fun v29 =>
  if v29 ≤ x7 then
    f_X7_sizeOf_98 F K R a0 F I x2 x3 x4 x5 x6 (0 : Int32) (0 : Int32) (0 : Int32)
  else
    zbd (f_X7_sort F K I R a0 x3 x7) fun v31 =>
    if v31 = (0 : Int32) then
      f_X7_sizeOf_54 F K R a0 kself I x2 x3 x4 x6 x7 x5 (1 : Int32)
    else
      f_X7_sizeOf_54 F K R a0 kself I x2 x3 x4 x6 x7 x5 (0 : Int32)
def f_X7_sizeOf_26 (F : Nat) (K : zK) (R : zR) (a0 : Nat)  : Nat → zI → Int32 → Int32 → Int32 → Int32 → Int32 → Int32 → Option (Int32 × zI)
  | 0, _, _, _, _, _, _, _ => none
  | t + 1, I, x2, x3, x4, x5, x6, x7 => g_X7_sizeOf_26 F K R a0  (f_X7_sizeOf_26 F K R a0  t) I x2 x3 x4 x5 x6 x7
def f_X7_sizeOf (F : Nat) (K : zK) (I : zI) (R : zR) (a0 : Nat) (x1 : Int32) (x2 : Int32) : Option (Int32 × zI) :=
  zbd (some ((97 : Int32) * x1)) fun v34 =>
  zbd (f_X7_holesOf F K I R a0 v34) fun v35 =>
  zbd (f_X7_levels F K I R a0 v34) fun I37 =>
  f_X7_sizeOf_26 F K R a0 F I37 x2 v34 v35 (0 : Int32) (0 : Int32) (0 : Int32)
/-! LeastPatternsModel.size(II)I -/
def f_X7_size (F : Nat) (K : zK) (I : zI) (R : zR) (a0 : Nat) (x1 : Int32) (x2 : Int32) : Option (Int32 × zI) :=
  zbd (f_X7_isRegister F K I R x1) fun v1 =>
  if v1 = (0 : Int32) then
    some ((-1 : Int32), I)
  else
    zbd (f_X7_in F K I R x2 (0 : Int32) (4 : Int32)) fun v4 =>
    if v4 = (0 : Int32) then
      some ((-1 : Int32), I)
    else
      zbd (f_X7_isEmpty F K I R a0 x1) fun v7 =>
      if v7 = (0 : Int32) then
        zbd2 (f_X7_sizeOf F K I R a0 x1 x2) fun v10 I11 =>
        some (v10, I11)
      else
        some ((-2 : Int32), I)
/-! LeastPatternsModel.isPair(IIIIIIII)Z -/
def f_X7_isPair (F : Nat) (K : zK) (I : zI) (R : zR) (a0 : Nat) (x1 : Int32) (x2 : Int32) (x3 : Int32) (x4 : Int32) (x5 : Int32) (x6 : Int32) (x7 : Int32) (x8 : Int32) : Option (Int32) :=
  zbd (some (R a0 17)) fun o1 =>
  zbd (zdr K o1 1) fun a2 =>
  zbd (zrd K I a2 x1) fun v5 =>
  if v5 = x2 then
    zbd (some (R a0 20)) fun o7 =>
    zbd (zdr K o7 1) fun a8 =>
    zbd (zrd K I a8 x1) fun v11 =>
    if v11 = x5 then
      zbd (some (R a0 23)) fun o13 =>
      zbd (zdr K o13 1) fun a14 =>
      zbd (zrd K I a14 x1) fun v17 =>
      if v17 = x8 then
        if x2 = (2 : Int32) then
          zbd (some (R a0 18)) fun o46 =>
          zbd (zdr K o46 1) fun a47 =>
          zbd (zrd K I a47 x1) fun v50 =>
          zbd (some (R a0 19)) fun o51 =>
          zbd (zdr K o51 1) fun a52 =>
          zbd (zrd K I a52 x1) fun v55 =>
          zbd (f_X7_number F K I R a0 v50 v55) fun v56 =>
          zbd (f_X7_number F K I R a0 x3 x4) fun v58 =>
          if v56 = v58 then
            zbd (some (R a0 21)) fun o61 =>
            zbd (zdr K o61 1) fun a62 =>
            zbd (zrd K I a62 x1) fun v65 =>
            zbd (some (R a0 22)) fun o66 =>
            zbd (zdr K o66 1) fun a67 =>
            zbd (zrd K I a67 x1) fun v70 =>
            zbd (f_X7_number F K I R a0 v65 v70) fun v71 =>
            zbd (f_X7_number F K I R a0 x6 x7) fun v73 =>
            if v71 = v73 then
              some (1 : Int32)
            else
              some (0 : Int32)
          else
            some (0 : Int32)
        else
          zbd (some (R a0 18)) fun o20 =>
          zbd (zdr K o20 1) fun a21 =>
          zbd (zrd K I a21 x1) fun v24 =>
          zbd (some (R a0 19)) fun o25 =>
          zbd (zdr K o25 1) fun a26 =>
          zbd (zrd K I a26 x1) fun v29 =>
          zbd (f_X7_isSame F K I R a0 v24 v29 x3 x4 x5) fun v30 =>
          if v30 = (0 : Int32) then
            some (0 : Int32)
          else
            zbd (some (R a0 21)) fun o33 =>
            zbd (zdr K o33 1) fun a34 =>
            zbd (zrd K I a34 x1) fun v37 =>
            zbd (some (R a0 22)) fun o38 =>
            zbd (zdr K o38 1) fun a39 =>
            zbd (zrd K I a39 x1) fun v42 =>
            zbd (f_X7_isSame F K I R a0 v37 v42 x6 x7 x8) fun v43 =>
            if v43 = (0 : Int32) then
              some (0 : Int32)
            else
              some (1 : Int32)
      else
        some (0 : Int32)
    else
      some (0 : Int32)
  else
    some (0 : Int32)
/-! LeastPatternsModel.holeFor(IIIIIII)I -/
def g_X7_holeFor_3 (F : Nat) (K : zK) (R : zR) (a0 : Nat)  (kself : zI → Int32 → Int32 → Int32 → Int32 → Int32 → Int32 → Int32 → Int32 → Option (Int32 × zI)) (I : zI) (x1 : Int32) (x2 : Int32) (x3 : Int32) (x4 : Int32) (x5 : Int32) (x6 : Int32) (x7 : Int32) (x8 : Int32) : Option (Int32 × zI) :=
  if (I a0 16) ≤ x8 then
    if (I a0 16) = (10 : Int32) then
      some ((-9 : Int32), I)
    else
      zbd (some (R a0 17)) fun o3 =>
      zbd (zdr K o3 1) fun a4 =>
      zbd (zwr K I a4 (I a0 16) x1) fun I7 =>
      zbd (some (R a0 18)) fun o8 =>
      zbd (zdr K o8 1) fun a9 =>
      zbd (zwr K I7 a9 (I7 a0 16) x2) fun I12 =>
      zbd (some (R a0 19)) fun o13 =>
      zbd (zdr K o13 1) fun a14 =>
      zbd (zwr K I12 a14 (I12 a0 16) x3) fun I17 =>
      zbd (some (R a0 20)) fun o18 =>
      zbd (zdr K o18 1) fun a19 =>
      zbd (zwr K I17 a19 (I17 a0 16) x4) fun I22 =>
      zbd (some (R a0 21)) fun o23 =>
      zbd (zdr K o23 1) fun a24 =>
      zbd (zwr K I22 a24 (I22 a0 16) x5) fun I27 =>
      zbd (some (R a0 22)) fun o28 =>
      zbd (zdr K o28 1) fun a29 =>
      zbd (zwr K I27 a29 (I27 a0 16) x6) fun I32 =>
      zbd (some (R a0 23)) fun o33 =>
      zbd (zdr K o33 1) fun a34 =>
      zbd (zwr K I32 a34 (I32 a0 16) x7) fun I37 =>
      zbd (some (zup I37 a0 16 ((I37 a0 16) + (1 : Int32)))) fun I38 =>
      some ((I38 a0 16) - (1 : Int32), I38)
  else
    zbd (f_X7_isPair F K I R a0 x8 x1 x2 x3 x4 x5 x6 x7) fun v39 =>
    if v39 = (0 : Int32) then
      kself I x1 x2 x3 x4 x5 x6 x7 (x8 + (1 : Int32))
    else
      some (x8, I)
def f_X7_holeFor_3 (F : Nat) (K : zK) (R : zR) (a0 : Nat)  : Nat → zI → Int32 → Int32 → Int32 → Int32 → Int32 → Int32 → Int32 → Int32 → Option (Int32 × zI)
  | 0, _, _, _, _, _, _, _, _, _ => none
  | t + 1, I, x1, x2, x3, x4, x5, x6, x7, x8 => g_X7_holeFor_3 F K R a0  (f_X7_holeFor_3 F K R a0  t) I x1 x2 x3 x4 x5 x6 x7 x8
def f_X7_holeFor (F : Nat) (K : zK) (I : zI) (R : zR) (a0 : Nat) (x1 : Int32) (x2 : Int32) (x3 : Int32) (x4 : Int32) (x5 : Int32) (x6 : Int32) (x7 : Int32) : Option (Int32 × zI) :=
  f_X7_holeFor_3 F K R a0 F I x1 x2 x3 x4 x5 x6 x7 (0 : Int32)
/-! LeastPatternsModel.pushes(ZIIII)V -/
def f_X7_pushes (F : Nat) (K : zK) (I : zI) (R : zR) (a0 : Nat) (x1 : Int32) (x2 : Int32) (x3 : Int32) (x4 : Int32) (x5 : Int32) : Option (zI) :=
  zbd (some (R a0 24)) fun o1 =>
  zbd (zdr K o1 2) fun a2 =>
  zbd (zwrZ K I a2 (I a0 29) x1) fun I5 =>
  zbd (some (R a0 25)) fun o6 =>
  zbd (zdr K o6 1) fun a7 =>
  zbd (zwr K I5 a7 (I5 a0 29) x2) fun I10 =>
  zbd (some (R a0 27)) fun o11 =>
  zbd (zdr K o11 1) fun a12 =>
  zbd (zwr K I10 a12 (I10 a0 29) x3) fun I15 =>
  zbd (some (R a0 26)) fun o16 =>
  zbd (zdr K o16 1) fun a17 =>
  zbd (zwr K I15 a17 (I15 a0 29) x4) fun I20 =>
  zbd (some (R a0 28)) fun o21 =>
  zbd (zdr K o21 1) fun a22 =>
  zbd (zwr K I20 a22 (I20 a0 29) x5) fun I25 =>
  zbd (some (zup I25 a0 29 ((I25 a0 29) + (1 : Int32)))) fun I26 =>
  some I26
/-! LeastPatternsModel.isAlike(IIII)Z -/
def f_X7_isAlike (F : Nat) (K : zK) (I : zI) (R : zR) (a0 : Nat) (x1 : Int32) (x2 : Int32) (x3 : Int32) (x4 : Int32) : Option (Int32) :=
  zbd (f_X7_sort F K I R a0 x1 x2) fun v1 =>
  if v1 = (0 : Int32) then
    zbd (f_X7_sort F K I R a0 x3 x4) fun v4 =>
    if v4 = (0 : Int32) then
      zbd (f_X7_number F K I R a0 x1 x2) fun v7 =>
      zbd (f_X7_number F K I R a0 x3 x4) fun v9 =>
      if v7 = v9 then
        some (1 : Int32)
      else
        some (0 : Int32)
    else
      some (0 : Int32)
  else
    some (0 : Int32)
/-! LeastPatternsModel.pushesEven(III)V -/
def g_X7_pushesEven_5 (F : Nat) (K : zK) (R : zR) (a0 : Nat)  (kself : zI → Int32 → Int32 → Int32 → Option (zI)) (I : zI) (x1 : Int32) (x2 : Int32) (x4 : Int32) : Option (zI) :=
  if x4 < (0 : Int32) then
    some I
  else
    zbd (some (R a0 5)) fun o2 =>
    zbd (f_X7_child F K I R a0 x1 x4 o2) fun v3 =>
    zbd (some (R a0 6)) fun o5 =>
    zbd (f_X7_child F K I R a0 x2 x4 o5) fun v6 =>
    zbd (f_X7_pushes F K I R a0 (0 : Int32) v3 (0 : Int32) v6 (0 : Int32)) fun I8 =>
    kself I8 x1 x2 (x4 + (-1 : Int32))
def f_X7_pushesEven_5 (F : Nat) (K : zK) (R : zR) (a0 : Nat)  : Nat → zI → Int32 → Int32 → Int32 → Option (zI)
  | 0, _, _, _, _ => none
  | t + 1, I, x1, x2, x4 => g_X7_pushesEven_5 F K R a0  (f_X7_pushesEven_5 F K R a0  t) I x1 x2 x4
def f_X7_pushesEven (F : Nat) (K : zK) (I : zI) (R : zR) (a0 : Nat) (x1 : Int32) (x2 : Int32) (x3 : Int32) : Option (zI) :=
  zbd (some (x3 - (1 : Int32))) fun v10 =>
  f_X7_pushesEven_5 F K R a0 F I x1 x2 v10
/-! LeastPatternsModel.pushesAligned(IIII)I -/
def g_X7_pushesAligned_276 (F : Nat) (K : zK) (R : zR) (a0 : Nat)  (kself : zI → Int32 → Int32 → Int32 → Int32 → Int32 → Option (Int32 × zI)) (I : zI) (x2 : Int32) (x4 : Int32) (x7 : Int32) (x8 : Int32) (x11 : Int32) : Option (Int32 × zI) :=
  if x11 < (0 : Int32) then
    some ((x7 + (1 : Int32)) + x8, I)
  else
    zbd (some (R a0 5)) fun o2 =>
    zbd (f_X7_child F K I R a0 x2 x11 o2) fun v3 =>
    zbd (some (R a0 6)) fun o5 =>
    zbd (f_X7_child F K I R a0 x4 x11 o5) fun v6 =>
    zbd (f_X7_pushes F K I R a0 (0 : Int32) v3 (0 : Int32) v6 (0 : Int32)) fun I8 =>
    kself I8 x2 x4 x7 x8 (x11 + (-1 : Int32))
def f_X7_pushesAligned_276 (F : Nat) (K : zK) (R : zR) (a0 : Nat)  : Nat → zI → Int32 → Int32 → Int32 → Int32 → Int32 → Option (Int32 × zI)
  | 0, _, _, _, _, _, _ => none
  | t + 1, I, x2, x4, x7, x8, x11 => g_X7_pushesAligned_276 F K R a0  (f_X7_pushesAligned_276 F K R a0  t) I x2 x4 x7 x8 x11
def g_X7_pushesAligned_146 (F : Nat) (K : zK) (R : zR) (a0 : Nat)  (kself : zI → Int32 → Int32 → Int32 → Int32 → Int32 → Int32 → Int32 → Option (Int32 × zI)) (I : zI) (x2 : Int32) (x4 : Int32) (x5 : Int32) (x6 : Int32) (x7 : Int32) (x8 : Int32) (x9 : Int32) : Option (Int32 × zI) :=
  if x8 ≤ x9 then
    zbd (some (R a0 5)) fun o11 =>
    zbd (f_X7_child F K I R a0 x2 x7 o11) fun v12 =>
    zbd (some (R a0 6)) fun o14 =>
    zbd (f_X7_child F K I R a0 x4 x7 o14) fun v15 =>
    zbd (some (R a0 5)) fun o17 =>
    zbd (f_X7_child F K I R a0 x2 (x5 - x8) o17) fun v18 =>
    zbd (some (R a0 6)) fun o20 =>
    zbd (f_X7_child F K I R a0 x4 (x6 - x8) o20) fun v21 =>
    zbd (f_X7_pushes F K I R a0 (1 : Int32) v12 (v18 - v12) v15 (v21 - v15)) fun I23 =>
    zbd (some (x7 - (1 : Int32))) fun v25 =>
    f_X7_pushesAligned_276 F K R a0 F I23 x2 x4 x7 x8 v25
  else
    zbd (some (R a0 5)) fun o26 =>
    zbd (f_X7_child F K I R a0 x2 ((x5 - (1 : Int32)) - x9) o26) fun v27 =>
    zbd (some (R a0 6)) fun o29 =>
    zbd (f_X7_child F K I R a0 x4 ((x6 - (1 : Int32)) - x9) o29) fun v30 =>
    zbd (f_X7_pushes F K I R a0 (0 : Int32) v27 (0 : Int32) v30 (0 : Int32)) fun I32 =>
    kself I32 x2 x4 x5 x6 x7 x8 (x9 + (1 : Int32))
def f_X7_pushesAligned_146 (F : Nat) (K : zK) (R : zR) (a0 : Nat)  : Nat → zI → Int32 → Int32 → Int32 → Int32 → Int32 → Int32 → Int32 → Option (Int32 × zI)
  | 0, _, _, _, _, _, _, _, _ => none
  | t + 1, I, x2, x4, x5, x6, x7, x8, x9 => g_X7_pushesAligned_146 F K R a0  (f_X7_pushesAligned_146 F K R a0  t) I x2 x4 x5 x6 x7 x8 x9
def f_X7_pushesAligned_143 (F : Nat) (K : zK) (R : zR) (a0 : Nat)  (I : zI) (x2 : Int32) (x4 : Int32) (x5 : Int32) (x6 : Int32) (x7 : Int32) (x8 : Int32) : Option (Int32 × zI) :=
  f_X7_pushesAligned_146 F K R a0 F I x2 x4 x5 x6 x7 x8 (0 : Int32)
def g_X7_pushesAligned_75 (F : Nat) (K : zK) (R : zR) (a0 : Nat)  (kself : zI → Int32 → Int32 → Int32 → Int32 → Int32 → Int32 → Int32 → Int32 → Option (Int32 × zI)) (I : zI) (x1 : Int32) (x2 : Int32) (x3 : Int32) (x4 : Int32) (x5 : Int32) (x6 : Int32) (x7 : Int32) (x8 : Int32) : Option (Int32 × zI) :=
  if x5 ≤ (x7 + x8) then
    f_X7_pushesAligned_143 F K R a0 I x2 x4 x5 x6 x7 x8
  else
    if x6 ≤ (x7 + x8) then
      f_X7_pushesAligned_143 F K R a0 I x2 x4 x5 x6 x7 x8
    else
      zbd (some (R a0 5)) fun o36 =>
      zbd (f_X7_child F K I R a0 x2 ((x5 - (1 : Int32)) - x8) o36) fun v37 =>
      zbd (some (R a0 6)) fun o39 =>
      zbd (f_X7_child F K I R a0 x4 ((x6 - (1 : Int32)) - x8) o39) fun v40 =>
      zbd (f_X7_isAlike F K I R a0 x1 v37 x3 v40) fun v42 =>
      if v42 = (0 : Int32) then
        f_X7_pushesAligned_143 F K R a0 I x2 x4 x5 x6 x7 x8
      else
        kself I x1 x2 x3 x4 x5 x6 x7 (x8 + (1 : Int32))
def f_X7_pushesAligned_75 (F : Nat) (K : zK) (R : zR) (a0 : Nat)  : Nat → zI → Int32 → Int32 → Int32 → Int32 → Int32 → Int32 → Int32 → Int32 → Option (Int32 × zI)
  | 0, _, _, _, _, _, _, _, _, _ => none
  | t + 1, I, x1, x2, x3, x4, x5, x6, x7, x8 => g_X7_pushesAligned_75 F K R a0  (f_X7_pushesAligned_75 F K R a0  t) I x1 x2 x3 x4 x5 x6 x7 x8
def f_X7_pushesAligned_72 (F : Nat) (K : zK) (R : zR) (a0 : Nat)  (I : zI) (x1 : Int32) (x2 : Int32) (x3 : Int32) (x4 : Int32) (x5 : Int32) (x6 : Int32) (x7 : Int32) : Option (Int32 × zI) :=
  f_X7_pushesAligned_75 F K R a0 F I x1 x2 x3 x4 x5 x6 x7 (0 : Int32)
def g_X7_pushesAligned_20 (F : Nat) (K : zK) (R : zR) (a0 : Nat)  (kself : zI → Int32 → Int32 → Int32 → Int32 → Int32 → Int32 → Int32 → Option (Int32 × zI)) (I : zI) (x1 : Int32) (x2 : Int32) (x3 : Int32) (x4 : Int32) (x5 : Int32) (x6 : Int32) (x7 : Int32) : Option (Int32 × zI) :=
  if x5 ≤ x7 then
    f_X7_pushesAligned_72 F K R a0 I x1 x2 x3 x4 x5 x6 x7
  else
    if x6 ≤ x7 then
      f_X7_pushesAligned_72 F K R a0 I x1 x2 x3 x4 x5 x6 x7
    else
      zbd (some (R a0 5)) fun o47 =>
      zbd (f_X7_child F K I R a0 x2 x7 o47) fun v48 =>
      zbd (some (R a0 6)) fun o50 =>
      zbd (f_X7_child F K I R a0 x4 x7 o50) fun v51 =>
      zbd (f_X7_isAlike F K I R a0 x1 v48 x3 v51) fun v53 =>
      if v53 = (0 : Int32) then
        f_X7_pushesAligned_72 F K R a0 I x1 x2 x3 x4 x5 x6 x7
      else
        kself I x1 x2 x3 x4 x5 x6 (x7 + (1 : Int32))
def f_X7_pushesAligned_20 (F : Nat) (K : zK) (R : zR) (a0 : Nat)  : Nat → zI → Int32 → Int32 → Int32 → Int32 → Int32 → Int32 → Int32 → Option (Int32 × zI)
  | 0, _, _, _, _, _, _, _, _ => none
  | t + 1, I, x1, x2, x3, x4, x5, x6, x7 => g_X7_pushesAligned_20 F K R a0  (f_X7_pushesAligned_20 F K R a0  t) I x1 x2 x3 x4 x5 x6 x7
def f_X7_pushesAligned (F : Nat) (K : zK) (I : zI) (R : zR) (a0 : Nat) (x1 : Int32) (x2 : Int32) (x3 : Int32) (x4 : Int32) : Option (Int32 × zI) :=
  zbd (f_X7_arguments F K I R a0 x1 x2) fun v56 =>
  zbd (f_X7_arguments F K I R a0 x3 x4) fun v58 =>
  f_X7_pushesAligned_20 F K R a0 F I x1 x2 x3 x4 v56 v58 (0 : Int32)
/-! LeastPatternsModel.joinsNext(III)Z -/
def f_X7_joinsNext_398 (F : Nat) (K : zK) (R : zR) (a0 : Nat)  (I : zI) (x1 : Int32) (x2 : Int32) (x3 : Int32) (x4 : Int32) (x5 : Int32) : Option (Int32 × zI) :=
  zbd (some (R a0 5)) fun o1 =>
  zbd (zdr K o1 1) fun a2 =>
  zbd (zrd K I a2 x4) fun v5 =>
  zbd (some (R a0 6)) fun o6 =>
  zbd (zdr K o6 1) fun a7 =>
  zbd (zrd K I a7 x5) fun v10 =>
  zbd2 (f_X7_holeFor F K I R a0 (1 : Int32) x1 x4 v5 x2 x5 v10) fun v11 I12 =>
  zbd (some (R a0 0)) fun o14 =>
  zbd (zdr K o14 1) fun a15 =>
  zbd (zrd K I12 a15 x3) fun v18 =>
  zbd (f_X7_writes F K I12 R a0 x3 v18 (1 : Int32) v11 (0 : Int32)) fun I19 =>
  if v11 = (-9 : Int32) then
    some ((0 : Int32), I19)
  else
    some ((1 : Int32), I19)
def f_X7_joinsNext_304 (F : Nat) (K : zK) (R : zR) (a0 : Nat)  (I : zI) (x1 : Int32) (x2 : Int32) (x3 : Int32) (x4 : Int32) (x5 : Int32) (x6 : Int32) (x8 : Int32) (x9 : Int32) : Option (Int32 × zI) :=
  if x9 = (0 : Int32) then
    f_X7_joinsNext_398 F K R a0 I x1 x2 x3 x4 x5
  else
    zbd (f_X7_isAlike F K I R a0 x1 x4 x2 x5) fun v23 =>
    if v23 = (0 : Int32) then
      zbd (some (R a0 0)) fun o26 =>
      zbd (zdr K o26 1) fun a27 =>
      zbd (zrd K I a27 (776 : Int32)) fun v30 =>
      if v30 = (1 : Int32) then
        if x8 = (0 : Int32) then
          f_X7_joinsNext_398 F K R a0 I x1 x2 x3 x4 x5
        else
          if x6 ≤ (0 : Int32) then
            f_X7_joinsNext_398 F K R a0 I x1 x2 x3 x4 x5
          else
            zbd2 (f_X7_holeFor F K I R a0 (2 : Int32) x1 x4 (1 : Int32) x2 x5 (1 : Int32)) fun v34 I35 =>
            zbd (some (R a0 0)) fun o37 =>
            zbd (zdr K o37 1) fun a38 =>
            zbd (zrd K I35 a38 x3) fun v41 =>
            zbd (f_X7_writes F K I35 R a0 x3 v41 (2 : Int32) v34 x6) fun I42 =>
            zbd (f_X7_pushesEven F K I42 R a0 x4 x5 x6) fun I44 =>
            if v34 = (-9 : Int32) then
              some ((0 : Int32), I44)
            else
              some ((1 : Int32), I44)
      else
        f_X7_joinsNext_398 F K R a0 I x1 x2 x3 x4 x5
    else
      f_X7_joinsNext_398 F K R a0 I x1 x2 x3 x4 x5
def f_X7_joinsNext_273 (F : Nat) (K : zK) (R : zR) (a0 : Nat)  (I : zI) (x1 : Int32) (x2 : Int32) (x3 : Int32) (x4 : Int32) (x5 : Int32) : Option (Int32 × zI) :=
  zbd (some (R a0 0)) fun o47 =>
  zbd (zdr K o47 1) fun a48 =>
  zbd (zrd K I a48 x3) fun v51 =>
  zbd (f_X7_number F K I R a0 x1 x4) fun v52 =>
  zbd2 (f_X7_pushesAligned F K I R a0 x1 x4 x2 x5) fun v54 I55 =>
  zbd (f_X7_writes F K I55 R a0 x3 v51 (0 : Int32) v52 v54) fun I57 =>
  some ((1 : Int32), I57)
def f_X7_joinsNext_243 (F : Nat) (K : zK) (R : zR) (a0 : Nat)  (I : zI) (x1 : Int32) (x2 : Int32) (x3 : Int32) (x4 : Int32) (x5 : Int32) (x6 : Int32) (x7 : Int32) (x8 : Int32) (x9 : Int32) : Option (Int32 × zI) :=
  zbd (f_X7_isAlike F K I R a0 x1 x4 x2 x5) fun v59 =>
  if v59 = (0 : Int32) then
    f_X7_joinsNext_304 F K R a0 I x1 x2 x3 x4 x5 x6 x8 x9
  else
    zbd (some (R a0 0)) fun o62 =>
    zbd (zdr K o62 1) fun a63 =>
    zbd (zrd K I a63 (777 : Int32)) fun v66 =>
    if v66 = (1 : Int32) then
      f_X7_joinsNext_273 F K R a0 I x1 x2 x3 x4 x5
    else
      if x7 = (0 : Int32) then
        f_X7_joinsNext_304 F K R a0 I x1 x2 x3 x4 x5 x6 x8 x9
      else
        f_X7_joinsNext_273 F K R a0 I x1 x2 x3 x4 x5
def f_X7_joinsNext_190 (F : Nat) (K : zK) (R : zR) (a0 : Nat)  (I : zI) (x1 : Int32) (x2 : Int32) (x3 : Int32) (x4 : Int32) (x5 : Int32) (x6 : Int32) (x7 : Int32) (x8 : Int32) (s0 : Int32) : Option (Int32 × zI) :=
  zbd (f_X7_isAlike F K I R a0 x1 x4 x2 x5) fun v69 =>
  if v69 = (0 : Int32) then
    f_X7_joinsNext_243 F K R a0 I x1 x2 x3 x4 x5 x6 x7 x8 s0
  else
    if x8 = (0 : Int32) then
      f_X7_joinsNext_243 F K R a0 I x1 x2 x3 x4 x5 x6 x7 x8 s0
    else
      zbd (some (R a0 0)) fun o73 =>
      zbd (zdr K o73 1) fun a74 =>
      zbd (zrd K I a74 x3) fun v77 =>
      zbd (f_X7_number F K I R a0 x1 x4) fun v78 =>
      zbd (f_X7_writes F K I R a0 x3 v77 (0 : Int32) v78 x6) fun I80 =>
      zbd (f_X7_pushesEven F K I80 R a0 x4 x5 x6) fun I82 =>
      some ((1 : Int32), I82)
def f_X7_joinsNext_189 (F : Nat) (K : zK) (R : zR) (a0 : Nat)  (I : zI) (x1 : Int32) (x2 : Int32) (x3 : Int32) (x4 : Int32) (x5 : Int32) (x6 : Int32) (x7 : Int32) (x8 : Int32) : Option (Int32 × zI) :=
  f_X7_joinsNext_190 F K R a0 I x1 x2 x3 x4 x5 x6 x7 x8 (0 : Int32)
def f_X7_joinsNext_163 (F : Nat) (K : zK) (R : zR) (a0 : Nat)  (I : zI) (x1 : Int32) (x2 : Int32) (x3 : Int32) (x4 : Int32) (x5 : Int32) (x6 : Int32) (x7 : Int32) (s0 : Int32) : Option (Int32 × zI) :=
  zbd (f_X7_sort F K I R a0 x1 x4) fun v84 =>
  if v84 = (0 : Int32) then
    zbd (f_X7_sort F K I R a0 x2 x5) fun v87 =>
    if v87 = (0 : Int32) then
      f_X7_joinsNext_190 F K R a0 I x1 x2 x3 x4 x5 x6 x7 s0 (1 : Int32)
    else
      f_X7_joinsNext_189 F K R a0 I x1 x2 x3 x4 x5 x6 x7 s0
  else
    f_X7_joinsNext_189 F K R a0 I x1 x2 x3 x4 x5 x6 x7 s0
def f_X7_joinsNext_162 (F : Nat) (K : zK) (R : zR) (a0 : Nat)  (I : zI) (x1 : Int32) (x2 : Int32) (x3 : Int32) (x4 : Int32) (x5 : Int32) (x6 : Int32) (x7 : Int32) : Option (Int32 × zI) :=
  f_X7_joinsNext_163 F K R a0 I x1 x2 x3 x4 x5 x6 x7 (0 : Int32)
def f_X7_joinsNext_139 (F : Nat) (K : zK) (R : zR) (a0 : Nat)  (I : zI) (x1 : Int32) (x2 : Int32) (x3 : Int32) (x4 : Int32) (x5 : Int32) (x6 : Int32) (s0 : Int32) : Option (Int32 × zI) :=
  zbd (f_X7_arguments F K I R a0 x2 x5) fun v90 =>
  if x6 = v90 then
    if s0 = (0 : Int32) then
      f_X7_joinsNext_163 F K R a0 I x1 x2 x3 x4 x5 x6 s0 (1 : Int32)
    else
      f_X7_joinsNext_162 F K R a0 I x1 x2 x3 x4 x5 x6 s0
  else
    f_X7_joinsNext_162 F K R a0 I x1 x2 x3 x4 x5 x6 s0
def f_X7_joinsNext_134 (F : Nat) (K : zK) (R : zR) (a0 : Nat)  (I : zI) (x1 : Int32) (x2 : Int32) (x3 : Int32) (x4 : Int32) (x5 : Int32) (x6 : Int32) : Option (Int32 × zI) :=
  f_X7_joinsNext_139 F K R a0 I x1 x2 x3 x4 x5 x6 (1 : Int32)
def f_X7_joinsNext (F : Nat) (K : zK) (I : zI) (R : zR) (a0 : Nat) (x1 : Int32) (x2 : Int32) (x3 : Int32) : Option (Int32 × zI) :=
  zbd (some (R a0 25)) fun o94 =>
  zbd (zdr K o94 1) fun a95 =>
  zbd (zrd K I a95 (I a0 29)) fun v98 =>
  zbd (some (R a0 26)) fun o99 =>
  zbd (zdr K o99 1) fun a100 =>
  zbd (zrd K I a100 (I a0 29)) fun v103 =>
  zbd (some (R a0 24)) fun o104 =>
  zbd (zdr K o104 2) fun a105 =>
  zbd (zrd K I a105 (I a0 29)) fun v108 =>
  if v108 = (0 : Int32) then
    zbd (f_X7_arguments F K I R a0 x1 v98) fun v110 =>
    zbd (some (R a0 5)) fun o112 =>
    zbd (f_X7_sequenceOf F K I R a0 x1 v98 o112) fun v113 =>
    if v113 = (-9 : Int32) then
      zbd (some (R a0 6)) fun o116 =>
      zbd (f_X7_sequenceOf F K I R a0 x2 v103 o116) fun v117 =>
      if v117 = (-9 : Int32) then
        f_X7_joinsNext_139 F K R a0 I x1 x2 x3 v98 v103 v110 (0 : Int32)
      else
        f_X7_joinsNext_134 F K R a0 I x1 x2 x3 v98 v103 v110
    else
      f_X7_joinsNext_134 F K R a0 I x1 x2 x3 v98 v103 v110
  else
    zbd (some (R a0 27)) fun o120 =>
    zbd (zdr K o120 1) fun a121 =>
    zbd (zrd K I a121 (I a0 29)) fun v124 =>
    zbd (some (R a0 28)) fun o125 =>
    zbd (zdr K o125 1) fun a126 =>
    zbd (zrd K I a126 (I a0 29)) fun v129 =>
    zbd2 (f_X7_holeFor F K I R a0 (3 : Int32) x1 v98 v124 x2 v103 v129) fun v130 I131 =>
    zbd (some (R a0 0)) fun o133 =>
    zbd (zdr K o133 1) fun a134 =>
    zbd (zrd K I131 a134 x3) fun v137 =>
    zbd (f_X7_writes F K I131 R a0 x3 v137 (3 : Int32) v130 (0 : Int32)) fun I138 =>
    if v130 = (-9 : Int32) then
      some ((0 : Int32), I138)
    else
      some ((1 : Int32), I138)
/-! LeastPatternsModel.joins(III)Z -/
def g_X7_joins_39 (F : Nat) (K : zK) (R : zR) (a0 : Nat)  (kself : zI → Int32 → Int32 → Int32 → Option (Int32 × zI)) (I : zI) (x1 : Int32) (x2 : Int32) (x3 : Int32) : Option (Int32 × zI) :=
  if (I a0 29) ≤ (0 : Int32) then
    some ((1 : Int32), I)
  else
    zbd (some (zup I a0 29 ((I a0 29) - (1 : Int32)))) fun I2 =>
    zbd (some (R a0 0)) fun o3 =>
    zbd (zdr K o3 1) fun a4 =>
    zbd (zrd K I2 a4 x3) fun v7 =>
    if v7 = (32 : Int32) then
      some ((0 : Int32), I2)
    else
      zbd2 (f_X7_joinsNext F K I2 R a0 x1 x2 x3) fun v9 I10 =>
      if v9 = (0 : Int32) then
        some ((0 : Int32), I10)
      else
        zbd (some (R a0 0)) fun o13 =>
        zbd (zdr K o13 1) fun a14 =>
        zbd (zrd K I10 a14 x3) fun v17 =>
        zbd (zwr K I10 a14 x3 (v17 + (1 : Int32))) fun I18 =>
        kself I18 x1 x2 x3
def f_X7_joins_39 (F : Nat) (K : zK) (R : zR) (a0 : Nat)  : Nat → zI → Int32 → Int32 → Int32 → Option (Int32 × zI)
  | 0, _, _, _, _ => none
  | t + 1, I, x1, x2, x3 => g_X7_joins_39 F K R a0  (f_X7_joins_39 F K R a0  t) I x1 x2 x3
def f_X7_joins (F : Nat) (K : zK) (I : zI) (R : zR) (a0 : Nat) (x1 : Int32) (x2 : Int32) (x3 : Int32) : Option (Int32 × zI) :=
  zbd (some (R a0 5)) fun o19 =>
  zbd (f_X7_counts F K I R a0 x1 o19) fun I20 =>
  zbd (some (R a0 6)) fun o22 =>
  zbd (f_X7_counts F K I20 R a0 x2 o22) fun I23 =>
  zbd (some (R a0 0)) fun o25 =>
  zbd (zdr K o25 1) fun a26 =>
  zbd (zwr K I23 a26 x3 (0 : Int32)) fun I29 =>
  zbd (some (zup I29 a0 29 (0 : Int32))) fun I30 =>
  zbd (f_X7_pushes F K I30 R a0 (0 : Int32) (0 : Int32) (0 : Int32) (0 : Int32) (0 : Int32)) fun I31 =>
  f_X7_joins_39 F K R a0 F I31 x1 x2 x3
/-! LeastPatternsModel.wrong(IIZ)I -/
def f_X7_wrong_38 (F : Nat) (K : zK) (I : zI) (R : zR) (a0 : Nat)   : Option (Int32) :=
  some (-2 : Int32)
def f_X7_wrong_18 (F : Nat) (K : zK) (I : zI) (R : zR) (a0 : Nat)   : Option (Int32) :=
  some (-1 : Int32)
def f_X7_wrong (F : Nat) (K : zK) (I : zI) (R : zR) (a0 : Nat) (x1 : Int32) (x2 : Int32) (x3 : Int32) : Option (Int32) :=
  if x3 = (0 : Int32) then
    f_X7_wrong_18 F K I R a0
  else
    zbd (f_X7_isRegister F K I R x1) fun v2 =>
    if v2 = (0 : Int32) then
      f_X7_wrong_18 F K I R a0
    else
      zbd (f_X7_isRegister F K I R x2) fun v5 =>
      if v5 = (0 : Int32) then
        f_X7_wrong_18 F K I R a0
      else
        zbd (f_X7_isEmpty F K I R a0 x1) fun v8 =>
        if v8 = (0 : Int32) then
          zbd (f_X7_isEmpty F K I R a0 x2) fun v11 =>
          if v11 = (0 : Int32) then
            some (0 : Int32)
          else
            f_X7_wrong_38 F K I R a0
        else
          f_X7_wrong_38 F K I R a0
/-! LeastPatternsModel.join(III)I -/
def f_X7_join (F : Nat) (K : zK) (I : zI) (R : zR) (a0 : Nat) (x1 : Int32) (x2 : Int32) (x3 : Int32) : Option (Int32 × zI) :=
  zbd (f_X7_isRegister F K I R x3) fun v1 =>
  zbd (f_X7_wrong F K I R a0 x1 x2 v1) fun v3 =>
  if v3 = (0 : Int32) then
    zbd (some (zup I a0 16 (0 : Int32))) fun I6 =>
    zbd2 (f_X7_joins F K I6 R a0 ((97 : Int32) * x1) ((97 : Int32) * x2) (5460 : Int32)) fun v7 I8 =>
    if v7 = (0 : Int32) then
      some ((-3 : Int32), I8)
    else
      zbd (f_X7_records F K I8 R a0) fun I11 =>
      zbd2 (f_X7_puts F K I11 R a0 (5460 : Int32) x3) fun v13 I14 =>
      some (v13, I14)
  else
    some (v3, I)
/-! LeastPatternsModel.joinAll(II)I -/
def f_X7_joinAll_194 (F : Nat) (K : zK) (R : zR) (a0 : Nat) (k105 : zI → Int32 → Int32 → Int32 → Option (Int32 × zI)) (I : zI) (x1 : Int32) (x2 : Int32) (x5 : Int32) : Option (Int32 × zI) :=
  k105 I x1 x2 (x5 + (1 : Int32))
def f_X7_joinAll_188 (F : Nat) (K : zK) (R : zR) (a0 : Nat) (k105 : zI → Int32 → Int32 → Int32 → Option (Int32 × zI)) (I : zI) (x1 : Int32) (x2 : Int32) (x5 : Int32) (s0 : Option Nat) (s1 : Int32) : Option (Int32 × zI) :=
  zbd (zdr K s0 17) fun a1 =>
  zbd (f_X7_copies F K I R a1 s1 (5557 : Int32)) fun I4 =>
  f_X7_joinAll_194 F K R a0 k105 I4 x1 x2 x5
def f_X7_joinAll_171 (F : Nat) (K : zK) (R : zR) (a0 : Nat) (k105 : zI → Int32 → Int32 → Int32 → Option (Int32 × zI)) (I : zI) (x1 : Int32) (x2 : Int32) (x5 : Int32) (x6 : Int32) : Option (Int32 × zI) :=
  if x6 = (0 : Int32) then
    f_X7_joinAll_188 F K R a0 k105 I x1 x2 x5 (some a0) (5460 : Int32)
  else
    f_X7_joinAll_188 F K R a0 k105 I x1 x2 x5 (some a0) ((97 : Int32) * x5)
def f_X7_joinAll_143 (F : Nat) (K : zK) (R : zR) (a0 : Nat) (k105 : zI → Int32 → Int32 → Int32 → Option (Int32 × zI)) (I : zI) (x1 : Int32) (x2 : Int32) (x5 : Int32) (s0 : Int32) : Option (Int32 × zI) :=
  if s0 = (0 : Int32) then
    zbd2 (f_X7_joins F K I R a0 (5557 : Int32) ((97 : Int32) * x5) (5460 : Int32)) fun v8 I9 =>
    if v8 = (0 : Int32) then
      some ((-3 : Int32), I9)
    else
      f_X7_joinAll_171 F K R a0 k105 I9 x1 x2 x5 s0
  else
    f_X7_joinAll_171 F K R a0 k105 I x1 x2 x5 s0
def g_X7_joinAll_105 (F : Nat) (K : zK) (R : zR) (a0 : Nat)  (kself : zI → Int32 → Int32 → Int32 → Option (Int32 × zI)) (I : zI) (x1 : Int32) (x2 : Int32) (x5 : Int32) : Option (Int32 × zI) :=
  if (8 : Int32) ≤ x5 then
    zbd (f_X7_records F K I R a0) fun I13 =>
    zbd2 (f_X7_puts F K I13 R a0 (5557 : Int32) x2) fun v15 I16 =>
    some (v15, I16)
  else
    if ((x1 >>> (x5 &&& 31)) &&& (1 : Int32)) = (1 : Int32) then
      zbd (some (zup I a0 16 (0 : Int32))) fun I19 =>
      zbd (some (R a0 0)) fun o20 =>
      zbd (zdr K o20 1) fun a21 =>
      zbd (zrd K I19 a21 (5557 : Int32)) fun v24 =>
      if v24 = (0 : Int32) then
        f_X7_joinAll_143 F K R a0 kself I19 x1 x2 x5 (1 : Int32)
      else
        f_X7_joinAll_143 F K R a0 kself I19 x1 x2 x5 (0 : Int32)
    else
      f_X7_joinAll_194 F K R a0 kself I x1 x2 x5
def f_X7_joinAll_105 (F : Nat) (K : zK) (R : zR) (a0 : Nat)  : Nat → zI → Int32 → Int32 → Int32 → Option (Int32 × zI)
  | 0, _, _, _, _ => none
  | t + 1, I, x1, x2, x5 => g_X7_joinAll_105 F K R a0  (f_X7_joinAll_105 F K R a0  t) I x1 x2 x5
def f_X7_joinAll_72 (F : Nat) (K : zK) (R : zR) (a0 : Nat) (k28 : zI → Int32 → Int32 → Int32 → Int32 → Int32 → Option (Int32 × zI)) (I : zI) (x1 : Int32) (x2 : Int32) (x3 : Int32) (x5 : Int32) (s0 : Int32) : Option (Int32 × zI) :=
  k28 I x1 x2 x3 s0 (x5 + (1 : Int32))
def f_X7_joinAll_71 (F : Nat) (K : zK) (R : zR) (a0 : Nat) (k28 : zI → Int32 → Int32 → Int32 → Int32 → Int32 → Option (Int32 × zI)) (I : zI) (x1 : Int32) (x2 : Int32) (x3 : Int32) (x5 : Int32) : Option (Int32 × zI) :=
  f_X7_joinAll_72 F K R a0 k28 I x1 x2 x3 x5 (0 : Int32)
def f_X7_joinAll_67 (F : Nat) (K : zK) (R : zR) (a0 : Nat) (k28 : zI → Int32 → Int32 → Int32 → Int32 → Int32 → Option (Int32 × zI)) (I : zI) (x1 : Int32) (x2 : Int32) (x3 : Int32) (x5 : Int32) : Option (Int32 × zI) :=
  f_X7_joinAll_72 F K R a0 k28 I x1 x2 x3 x5 (1 : Int32)
def g_X7_joinAll_28 (F : Nat) (K : zK) (R : zR) (a0 : Nat)  (kself : zI → Int32 → Int32 → Int32 → Int32 → Int32 → Option (Int32 × zI)) (I : zI) (x1 : Int32) (x2 : Int32) (x3 : Int32) (x4 : Int32) (x5 : Int32) : Option (Int32 × zI) :=
  if (8 : Int32) ≤ x5 then
    if x3 < (2 : Int32) then
      some ((-2 : Int32), I)
    else
      if x4 = (0 : Int32) then
        some ((-2 : Int32), I)
      else
        zbd (some (R a0 0)) fun o29 =>
        zbd (zdr K o29 1) fun a30 =>
        zbd (zwr K I a30 (5557 : Int32) (0 : Int32)) fun I33 =>
        f_X7_joinAll_105 F K R a0 F I33 x1 x2 (0 : Int32)
  else
    zbd (some (x3 + ((x1 >>> (x5 &&& 31)) &&& (1 : Int32)))) fun v34 =>
    if x4 = (0 : Int32) then
      f_X7_joinAll_71 F K R a0 kself I x1 x2 v34 x5
    else
      if ((x1 >>> (x5 &&& 31)) &&& (1 : Int32)) = (0 : Int32) then
        f_X7_joinAll_67 F K R a0 kself I x1 x2 v34 x5
      else
        zbd (f_X7_isEmpty F K I R a0 x5) fun v37 =>
        if v37 = (0 : Int32) then
          f_X7_joinAll_67 F K R a0 kself I x1 x2 v34 x5
        else
          f_X7_joinAll_71 F K R a0 kself I x1 x2 v34 x5
def f_X7_joinAll_28 (F : Nat) (K : zK) (R : zR) (a0 : Nat)  : Nat → zI → Int32 → Int32 → Int32 → Int32 → Int32 → Option (Int32 × zI)
  | 0, _, _, _, _, _, _ => none
  | t + 1, I, x1, x2, x3, x4, x5 => g_X7_joinAll_28 F K R a0  (f_X7_joinAll_28 F K R a0  t) I x1 x2 x3 x4 x5
def f_X7_joinAll (F : Nat) (K : zK) (I : zI) (R : zR) (a0 : Nat) (x1 : Int32) (x2 : Int32) : Option (Int32 × zI) :=
  zbd (f_X7_in F K I R x1 (0 : Int32) (255 : Int32)) fun v40 =>
  if v40 = (0 : Int32) then
    some ((-1 : Int32), I)
  else
    zbd (f_X7_isRegister F K I R x2) fun v43 =>
    if v43 = (0 : Int32) then
      some ((-1 : Int32), I)
    else
      f_X7_joinAll_28 F K R a0 F I x1 x2 (0 : Int32) (1 : Int32) (0 : Int32)
/-! LeastPatternsModel.originOf(II)I -/
def f_X7_originOf_41 (F : Nat) (K : zK) (I : zI) (R : zR) (a0 : Nat)  (x2 : Int32) (x3 : Int32) (s0 : Int32) : Option (Int32) :=
  if (x2 - (x2 / (2 : Int32)) * (2 : Int32)) = (1 : Int32) then
    some x3
  else
    if x3 = (0 : Int32) then
      some (-9 : Int32)
    else
      some s0
def f_X7_originOf_20 (F : Nat) (K : zK) (I : zI) (R : zR) (a0 : Nat)  (x1 : Int32) (x2 : Int32) (s0 : Int32) : Option (Int32) :=
  if (2 : Int32) ≤ x2 then
    zbd (some (R a0 22)) fun o4 =>
    zbd (zdr K o4 1) fun a5 =>
    zbd (zrd K I a5 x1) fun v8 =>
    f_X7_originOf_41 F K I R a0 x2 s0 v8
  else
    zbd (some (R a0 19)) fun o9 =>
    zbd (zdr K o9 1) fun a10 =>
    zbd (zrd K I a10 x1) fun v13 =>
    f_X7_originOf_41 F K I R a0 x2 s0 v13
def f_X7_originOf (F : Nat) (K : zK) (I : zI) (R : zR) (a0 : Nat) (x1 : Int32) (x2 : Int32) : Option (Int32) :=
  if (2 : Int32) ≤ x2 then
    zbd (some (R a0 23)) fun o15 =>
    zbd (zdr K o15 1) fun a16 =>
    zbd (zrd K I a16 x1) fun v19 =>
    f_X7_originOf_20 F K I R a0 x1 x2 v19
  else
    zbd (some (R a0 20)) fun o20 =>
    zbd (zdr K o20 1) fun a21 =>
    zbd (zrd K I a21 x1) fun v24 =>
    f_X7_originOf_20 F K I R a0 x1 x2 v24
/-! LeastPatternsModel.origin(IIII)I -/
def f_X7_origin_28 (F : Nat) (K : zK) (R : zR) (a0 : Nat)  (I : zI) (x1 : Int32) (x2 : Int32) (x3 : Int32) (x4 : Int32) (s0 : Option Nat) (s1 : Int32) (s2 : Int32) (s3 : Int32) : Option (Int32 × zI) :=
  zbd (zdr K s0 17) fun a1 =>
  zbd (f_X7_wrong F K I R a1 s1 s2 s3) fun v4 =>
  if v4 = (0 : Int32) then
    zbd (some (zup I a0 16 (0 : Int32))) fun I7 =>
    zbd2 (f_X7_joins F K I7 R a0 ((97 : Int32) * x1) ((97 : Int32) * x2) (5460 : Int32)) fun v8 I9 =>
    if v8 = (0 : Int32) then
      some ((-3 : Int32), I9)
    else
      if (I9 a0 16) ≤ x3 then
        some ((-9 : Int32), I9)
      else
        zbd (f_X7_originOf F K I9 R a0 x3 x4) fun v13 =>
        some (v13, I9)
  else
    some (v4, I)
def f_X7_origin_27 (F : Nat) (K : zK) (R : zR) (a0 : Nat)  (I : zI) (x1 : Int32) (x2 : Int32) (x3 : Int32) (x4 : Int32) (s0 : Option Nat) (s1 : Int32) (s2 : Int32) : Option (Int32 × zI) :=
  f_X7_origin_28 F K R a0 I x1 x2 x3 x4 s0 s1 s2 (0 : Int32)
def f_X7_origin (F : Nat) (K : zK) (I : zI) (R : zR) (a0 : Nat) (x1 : Int32) (x2 : Int32) (x3 : Int32) (x4 : Int32) : Option (Int32 × zI) :=
  zbd (f_X7_in F K I R x3 (0 : Int32) (9 : Int32)) fun v15 =>
  if v15 = (0 : Int32) then
    f_X7_origin_27 F K R a0 I x1 x2 x3 x4 (some a0) x1 x2
  else
    zbd (f_X7_in F K I R x4 (0 : Int32) (3 : Int32)) fun v18 =>
    if v18 = (0 : Int32) then
      f_X7_origin_27 F K R a0 I x1 x2 x3 x4 (some a0) x1 x2
    else
      f_X7_origin_28 F K R a0 I x1 x2 x3 x4 (some a0) x1 x2 (1 : Int32)
/-! LeastPatternsModel.fills(IIZIII)Z -/
def f_X7_fills (F : Nat) (K : zK) (I : zI) (R : zR) (a0 : Nat) (x1 : Int32) (x2 : Int32) (x3 : Int32) (x4 : Int32) (x5 : Int32) (x6 : Int32) : Option (Int32 × zI) :=
  zbd (some (R a0 31)) fun o1 =>
  zbd (zdr K o1 1) fun a2 =>
  zbd (zrd K I a2 x2) fun v5 =>
  if (0 : Int32) ≤ v5 then
    if x3 = (0 : Int32) then
      zbd (some (R a0 31)) fun o8 =>
      zbd (zdr K o8 1) fun a9 =>
      zbd (zrd K I a9 x2) fun v12 =>
      if v12 = x5 then
        zbd (some (R a0 30)) fun o14 =>
        zbd (zdr K o14 1) fun a15 =>
        zbd (zrd K I a15 x2) fun v18 =>
        zbd (f_X7_isSame F K I R a0 x1 v18 x1 x4 x5) fun v19 =>
        if v19 = (0 : Int32) then
          some ((0 : Int32), I)
        else
          some ((1 : Int32), I)
      else
        some ((0 : Int32), I)
    else
      zbd (f_X7_sort F K I R a0 x1 x4) fun v22 =>
      zbd (some (R a0 30)) fun o24 =>
      zbd (zdr K o24 1) fun a25 =>
      zbd (zrd K I a25 x2) fun v28 =>
      zbd (f_X7_sort F K I R a0 x1 v28) fun v29 =>
      if v22 = v29 then
        zbd (f_X7_number F K I R a0 x1 x4) fun v32 =>
        zbd (some (R a0 30)) fun o34 =>
        zbd (zdr K o34 1) fun a35 =>
        zbd (zrd K I a35 x2) fun v38 =>
        zbd (f_X7_number F K I R a0 x1 v38) fun v39 =>
        if v32 = v39 then
          some ((1 : Int32), I)
        else
          some ((0 : Int32), I)
      else
        some ((0 : Int32), I)
  else
    zbd (some (R a0 30)) fun o42 =>
    zbd (zdr K o42 1) fun a43 =>
    zbd (zwr K I a43 x2 x4) fun I46 =>
    zbd (some (R a0 31)) fun o47 =>
    zbd (zdr K o47 1) fun a48 =>
    zbd (zwr K I46 a48 x2 x5) fun I51 =>
    zbd (some (R a0 32)) fun o52 =>
    zbd (zdr K o52 1) fun a53 =>
    zbd (zwr K I51 a53 x2 x6) fun I56 =>
    some ((1 : Int32), I56)
/-! LeastPatternsModel.matchesArguments(IIII)Z -/
def g_X7_matchesArguments_204 (F : Nat) (K : zK) (R : zR) (a0 : Nat)  (kself : zI → Int32 → Int32 → Int32 → Option (Int32 × zI)) (I : zI) (x2 : Int32) (x4 : Int32) (x10 : Int32) : Option (Int32 × zI) :=
  if x10 < (0 : Int32) then
    some ((1 : Int32), I)
  else
    zbd (some (R a0 5)) fun o2 =>
    zbd (f_X7_child F K I R a0 x2 x10 o2) fun v3 =>
    zbd (some (R a0 6)) fun o5 =>
    zbd (f_X7_child F K I R a0 x4 x10 o5) fun v6 =>
    zbd (f_X7_pushes F K I R a0 (0 : Int32) v3 (0 : Int32) v6 (0 : Int32)) fun I8 =>
    kself I8 x2 x4 (x10 + (-1 : Int32))
def f_X7_matchesArguments_204 (F : Nat) (K : zK) (R : zR) (a0 : Nat)  : Nat → zI → Int32 → Int32 → Int32 → Option (Int32 × zI)
  | 0, _, _, _, _ => none
  | t + 1, I, x2, x4, x10 => g_X7_matchesArguments_204 F K R a0  (f_X7_matchesArguments_204 F K R a0  t) I x2 x4 x10
def g_X7_matchesArguments_88 (F : Nat) (K : zK) (R : zR) (a0 : Nat)  (kself : zI → Int32 → Int32 → Int32 → Int32 → Int32 → Int32 → Int32 → Option (Int32 × zI)) (I : zI) (x2 : Int32) (x4 : Int32) (x5 : Int32) (x6 : Int32) (x7 : Int32) (x8 : Int32) (x9 : Int32) : Option (Int32 × zI) :=
  if x8 ≤ x9 then
    zbd (some (R a0 6)) fun o11 =>
    zbd (f_X7_child F K I R a0 x4 x7 o11) fun v12 =>
    zbd (some (R a0 5)) fun o14 =>
    zbd (f_X7_child F K I R a0 x2 x7 o14) fun v15 =>
    zbd (some (R a0 6)) fun o17 =>
    zbd (f_X7_child F K I R a0 x4 (x6 - x8) o17) fun v18 =>
    zbd (f_X7_pushes F K I R a0 (1 : Int32) v15 ((x6 - x5) + (1 : Int32)) v12 (v18 - v12)) fun I20 =>
    zbd (some (x7 - (1 : Int32))) fun v22 =>
    f_X7_matchesArguments_204 F K R a0 F I20 x2 x4 v22
  else
    zbd (some (R a0 5)) fun o23 =>
    zbd (f_X7_child F K I R a0 x2 ((x5 - (1 : Int32)) - x9) o23) fun v24 =>
    zbd (some (R a0 6)) fun o26 =>
    zbd (f_X7_child F K I R a0 x4 ((x6 - (1 : Int32)) - x9) o26) fun v27 =>
    zbd (f_X7_pushes F K I R a0 (0 : Int32) v24 (0 : Int32) v27 (0 : Int32)) fun I29 =>
    kself I29 x2 x4 x5 x6 x7 x8 (x9 + (1 : Int32))
def f_X7_matchesArguments_88 (F : Nat) (K : zK) (R : zR) (a0 : Nat)  : Nat → zI → Int32 → Int32 → Int32 → Int32 → Int32 → Int32 → Int32 → Option (Int32 × zI)
  | 0, _, _, _, _, _, _, _, _ => none
  | t + 1, I, x2, x4, x5, x6, x7, x8, x9 => g_X7_matchesArguments_88 F K R a0  (f_X7_matchesArguments_88 F K R a0  t) I x2 x4 x5 x6 x7 x8 x9
def f_X7_matchesArguments_52 (F : Nat) (K : zK) (R : zR) (a0 : Nat)  (I : zI) (x5 : Int32) (x6 : Int32) : Option (Int32 × zI) :=
  if x5 = x6 then
    some ((1 : Int32), I)
  else
    some ((0 : Int32), I)
def f_X7_matchesArguments (F : Nat) (K : zK) (I : zI) (R : zR) (a0 : Nat) (x1 : Int32) (x2 : Int32) (x3 : Int32) (x4 : Int32) : Option (Int32 × zI) :=
  zbd (f_X7_arguments F K I R a0 x1 x2) fun v32 =>
  zbd (f_X7_arguments F K I R a0 x3 x4) fun v34 =>
  zbd (some (R a0 5)) fun o36 =>
  zbd (f_X7_sequenceOf F K I R a0 x1 x2 o36) fun v37 =>
  if v37 = (-9 : Int32) then
    if v32 = v34 then
      zbd (f_X7_pushesEven F K I R a0 x2 x4 v34) fun I43 =>
      f_X7_matchesArguments_52 F K R a0 I43 v32 v34
    else
      f_X7_matchesArguments_52 F K R a0 I v32 v34
  else
    zbd (some ((v32 - (1 : Int32)) - v37)) fun v40 =>
    if (v32 - (1 : Int32)) ≤ v34 then
      f_X7_matchesArguments_88 F K R a0 F I x2 x4 v32 v34 v37 v40 (0 : Int32)
    else
      some ((0 : Int32), I)
/-! LeastPatternsModel.matchesNext(II)Z -/
def f_X7_matchesNext_154 (F : Nat) (K : zK) (R : zR) (a0 : Nat)  (I : zI) (x1 : Int32) (x2 : Int32) (x3 : Int32) (x4 : Int32) (s0 : Int32) : Option (Int32 × zI) :=
  if s0 = (0 : Int32) then
    some ((0 : Int32), I)
  else
    zbd (f_X7_number F K I R a0 x1 x3) fun v2 =>
    zbd2 (f_X7_fills F K I R a0 x2 v2 (1 : Int32) x4 (1 : Int32) (1 : Int32)) fun v4 I5 =>
    if v4 = (0 : Int32) then
      some ((0 : Int32), I5)
    else
      zbd2 (f_X7_matchesArguments F K I5 R a0 x1 x3 x2 x4) fun v8 I9 =>
      if v8 = (0 : Int32) then
        some ((0 : Int32), I9)
      else
        some ((1 : Int32), I9)
def f_X7_matchesNext_149 (F : Nat) (K : zK) (R : zR) (a0 : Nat)  (I : zI) (x1 : Int32) (x2 : Int32) (x3 : Int32) (x4 : Int32) : Option (Int32 × zI) :=
  f_X7_matchesNext_154 F K R a0 I x1 x2 x3 x4 (1 : Int32)
def f_X7_matchesNext (F : Nat) (K : zK) (I : zI) (R : zR) (a0 : Nat) (x1 : Int32) (x2 : Int32) : Option (Int32 × zI) :=
  zbd (some (R a0 25)) fun o12 =>
  zbd (zdr K o12 1) fun a13 =>
  zbd (zrd K I a13 (I a0 29)) fun v16 =>
  zbd (some (R a0 26)) fun o17 =>
  zbd (zdr K o17 1) fun a18 =>
  zbd (zrd K I a18 (I a0 29)) fun v21 =>
  zbd (some (R a0 24)) fun o22 =>
  zbd (zdr K o22 2) fun a23 =>
  zbd (zrd K I a23 (I a0 29)) fun v26 =>
  if v26 = (0 : Int32) then
    zbd (f_X7_sort F K I R a0 x1 v16) fun v28 =>
    if v28 = (1 : Int32) then
      zbd (f_X7_sort F K I R a0 x2 v21) fun v47 =>
      if v47 = (3 : Int32) then
        some ((0 : Int32), I)
      else
        zbd (f_X7_number F K I R a0 x1 v16) fun v50 =>
        zbd (some (R a0 6)) fun o52 =>
        zbd (zdr K o52 1) fun a53 =>
        zbd (zrd K I a53 v21) fun v56 =>
        zbd2 (f_X7_fills F K I R a0 x2 v50 (0 : Int32) v21 v56 (1 : Int32)) fun v57 I58 =>
        if v57 = (0 : Int32) then
          some ((0 : Int32), I58)
        else
          some ((1 : Int32), I58)
    else
      zbd (f_X7_sort F K I R a0 x1 v16) fun v31 =>
      if v31 = (2 : Int32) then
        zbd (f_X7_sort F K I R a0 x2 v21) fun v41 =>
        if v41 = (0 : Int32) then
          f_X7_matchesNext_149 F K R a0 I x1 x2 v16 v21
        else
          zbd (f_X7_sort F K I R a0 x2 v21) fun v44 =>
          if v44 = (2 : Int32) then
            f_X7_matchesNext_149 F K R a0 I x1 x2 v16 v21
          else
            f_X7_matchesNext_154 F K R a0 I x1 x2 v16 v21 (0 : Int32)
      else
        zbd (f_X7_isAlike F K I R a0 x1 v16 x2 v21) fun v34 =>
        if v34 = (0 : Int32) then
          some ((0 : Int32), I)
        else
          zbd2 (f_X7_matchesArguments F K I R a0 x1 v16 x2 v21) fun v37 I38 =>
          if v37 = (0 : Int32) then
            some ((0 : Int32), I38)
          else
            some ((1 : Int32), I38)
  else
    zbd (f_X7_number F K I R a0 x1 v16) fun v61 =>
    zbd (some (R a0 28)) fun o63 =>
    zbd (zdr K o63 1) fun a64 =>
    zbd (zrd K I a64 (I a0 29)) fun v67 =>
    zbd (some (R a0 27)) fun o68 =>
    zbd (zdr K o68 1) fun a69 =>
    zbd (zrd K I a69 (I a0 29)) fun v72 =>
    zbd2 (f_X7_fills F K I R a0 x2 v61 (0 : Int32) v21 v67 v72) fun v73 I74 =>
    if v73 = 0 ∨ v73 = 1 then
    some (v73, I74)
    else
    none
/-! LeastPatternsModel.matches(II)Z -/
def g_X7_matches_55 (F : Nat) (K : zK) (R : zR) (a0 : Nat)  (kself : zI → Int32 → Int32 → Int32 → Option (Int32 × zI)) (I : zI) (x1 : Int32) (x2 : Int32) (x3 : Int32) : Option (Int32 × zI) :=
  if x3 = (0 : Int32) then
    if x3 = 0 ∨ x3 = 1 then
    some (x3, I)
    else
    none
  else
    if (I a0 29) ≤ (0 : Int32) then
      if x3 = 0 ∨ x3 = 1 then
      some (x3, I)
      else
      none
    else
      zbd (some (zup I a0 29 ((I a0 29) - (1 : Int32)))) fun I5 =>
      zbd2 (f_X7_matchesNext F K I5 R a0 x1 x2) fun v6 I7 =>
      kself I7 x1 x2 v6
def f_X7_matches_55 (F : Nat) (K : zK) (R : zR) (a0 : Nat)  : Nat → zI → Int32 → Int32 → Int32 → Option (Int32 × zI)
  | 0, _, _, _, _ => none
  | t + 1, I, x1, x2, x3 => g_X7_matches_55 F K R a0  (f_X7_matches_55 F K R a0  t) I x1 x2 x3
def g_X7_matches_20 (F : Nat) (K : zK) (R : zR) (a0 : Nat)  (kself : zI → Int32 → Int32 → Int32 → Option (Int32 × zI)) (I : zI) (x1 : Int32) (x2 : Int32) (x3 : Int32) : Option (Int32 × zI) :=
  if (10 : Int32) ≤ x3 then
    zbd (some (zup I a0 29 (0 : Int32))) fun I10 =>
    zbd (f_X7_pushes F K I10 R a0 (0 : Int32) (0 : Int32) (0 : Int32) (0 : Int32) (0 : Int32)) fun I11 =>
    f_X7_matches_55 F K R a0 F I11 x1 x2 (1 : Int32)
  else
    zbd (some (R a0 31)) fun o13 =>
    zbd (zdr K o13 1) fun a14 =>
    zbd (zwr K I a14 x3 (-1 : Int32)) fun I17 =>
    kself I17 x1 x2 (x3 + (1 : Int32))
def f_X7_matches_20 (F : Nat) (K : zK) (R : zR) (a0 : Nat)  : Nat → zI → Int32 → Int32 → Int32 → Option (Int32 × zI)
  | 0, _, _, _, _ => none
  | t + 1, I, x1, x2, x3 => g_X7_matches_20 F K R a0  (f_X7_matches_20 F K R a0  t) I x1 x2 x3
def f_X7_matches (F : Nat) (K : zK) (I : zI) (R : zR) (a0 : Nat) (x1 : Int32) (x2 : Int32) : Option (Int32 × zI) :=
  zbd (some (R a0 5)) fun o18 =>
  zbd (f_X7_counts F K I R a0 x1 o18) fun I19 =>
  zbd (some (R a0 6)) fun o21 =>
  zbd (f_X7_counts F K I19 R a0 x2 o21) fun I22 =>
  f_X7_matches_20 F K R a0 F I22 x1 x2 (0 : Int32)
/-! LeastPatternsModel.covers(II)I -/
def f_X7_covers (F : Nat) (K : zK) (I : zI) (R : zR) (a0 : Nat) (x1 : Int32) (x2 : Int32) : Option (Int32 × zI) :=
  zbd (f_X7_wrong F K I R a0 x1 x2 (1 : Int32)) fun v1 =>
  if v1 = (0 : Int32) then
    zbd2 (f_X7_matches F K I R a0 ((97 : Int32) * x1) ((97 : Int32) * x2)) fun v4 I5 =>
    if v4 = (0 : Int32) then
      some ((0 : Int32), I5)
    else
      some ((1 : Int32), I5)
  else
    some (v1, I)
/-! LeastPatternsModel.filled(IIII)I -/
def f_X7_filled_28 (F : Nat) (K : zK) (R : zR) (a0 : Nat)  (I : zI) (x1 : Int32) (x2 : Int32) (x3 : Int32) (x4 : Int32) (s0 : Option Nat) (s1 : Int32) (s2 : Int32) (s3 : Int32) : Option (Int32 × zI) :=
  zbd (zdr K s0 17) fun a1 =>
  zbd (f_X7_wrong F K I R a1 s1 s2 s3) fun v4 =>
  if v4 = (0 : Int32) then
    zbd2 (f_X7_matches F K I R a0 ((97 : Int32) * x1) ((97 : Int32) * x2)) fun v7 I8 =>
    if v7 = (0 : Int32) then
      some ((-9 : Int32), I8)
    else
      zbd (some (R a0 31)) fun o11 =>
      zbd (zdr K o11 1) fun a12 =>
      zbd (zrd K I8 a12 x3) fun v15 =>
      if (0 : Int32) ≤ v15 then
        if x4 = (1 : Int32) then
          zbd (some (R a0 31)) fun o35 =>
          zbd (zdr K o35 1) fun a36 =>
          zbd (zrd K I8 a36 x3) fun v39 =>
          some (v39, I8)
        else
          if x4 = (2 : Int32) then
            zbd (some (R a0 32)) fun o30 =>
            zbd (zdr K o30 1) fun a31 =>
            zbd (zrd K I8 a31 x3) fun v34 =>
            some (v34, I8)
          else
            zbd (some (R a0 31)) fun o19 =>
            zbd (zdr K o19 1) fun a20 =>
            zbd (zrd K I8 a20 x3) fun v23 =>
            if v23 = (0 : Int32) then
              some ((-9 : Int32), I8)
            else
              zbd (some (R a0 30)) fun o25 =>
              zbd (zdr K o25 1) fun a26 =>
              zbd (zrd K I8 a26 x3) fun v29 =>
              some (v29, I8)
      else
        some ((-9 : Int32), I8)
  else
    some (v4, I)
def f_X7_filled_27 (F : Nat) (K : zK) (R : zR) (a0 : Nat)  (I : zI) (x1 : Int32) (x2 : Int32) (x3 : Int32) (x4 : Int32) (s0 : Option Nat) (s1 : Int32) (s2 : Int32) : Option (Int32 × zI) :=
  f_X7_filled_28 F K R a0 I x1 x2 x3 x4 s0 s1 s2 (0 : Int32)
def f_X7_filled (F : Nat) (K : zK) (I : zI) (R : zR) (a0 : Nat) (x1 : Int32) (x2 : Int32) (x3 : Int32) (x4 : Int32) : Option (Int32 × zI) :=
  zbd (f_X7_in F K I R x3 (0 : Int32) (9 : Int32)) fun v40 =>
  if v40 = (0 : Int32) then
    f_X7_filled_27 F K R a0 I x1 x2 x3 x4 (some a0) x1 x2
  else
    zbd (f_X7_in F K I R x4 (0 : Int32) (2 : Int32)) fun v43 =>
    if v43 = (0 : Int32) then
      f_X7_filled_27 F K R a0 I x1 x2 x3 x4 (some a0) x1 x2
    else
      f_X7_filled_28 F K R a0 I x1 x2 x3 x4 (some a0) x1 x2 (1 : Int32)
/-! LeastPatternsModel.compare(II)I -/
def f_X7_compare_56 (F : Nat) (K : zK) (R : zR) (a0 : Nat)  (I : zI) (x4 : Int32) (x5 : Int32) : Option (Int32 × zI) :=
  if x4 = (0 : Int32) then
    if x5 = (0 : Int32) then
      some ((3 : Int32), I)
    else
      some ((2 : Int32), I)
  else
    some ((1 : Int32), I)
def f_X7_compare (F : Nat) (K : zK) (I : zI) (R : zR) (a0 : Nat) (x1 : Int32) (x2 : Int32) : Option (Int32 × zI) :=
  zbd (f_X7_wrong F K I R a0 x1 x2 (1 : Int32)) fun v3 =>
  if v3 = (0 : Int32) then
    zbd2 (f_X7_matches F K I R a0 ((97 : Int32) * x1) ((97 : Int32) * x2)) fun v6 I7 =>
    zbd2 (f_X7_matches F K I7 R a0 ((97 : Int32) * x2) ((97 : Int32) * x1)) fun v9 I10 =>
    if v6 = (0 : Int32) then
      f_X7_compare_56 F K R a0 I10 v6 v9
    else
      if v9 = (0 : Int32) then
        f_X7_compare_56 F K R a0 I10 v6 v9
      else
        some ((0 : Int32), I10)
  else
    some (v3, I)
/-! LeastPatternsModel.coveredBy(I)I -/
def f_X7_coveredBy_41 (F : Nat) (K : zK) (R : zR) (a0 : Nat) (k4 : zI → Int32 → Int32 → Int32 → Option (Int32 × zI)) (I : zI) (x1 : Int32) (x3 : Int32) (s0 : Int32) (s1 : Int32) : Option (Int32 × zI) :=
  zbd (some (s0 ||| s1)) fun v1 =>
  k4 I x1 v1 (x3 + (1 : Int32))
def f_X7_coveredBy_40 (F : Nat) (K : zK) (R : zR) (a0 : Nat) (k4 : zI → Int32 → Int32 → Int32 → Option (Int32 × zI)) (I : zI) (x1 : Int32) (x3 : Int32) (s0 : Int32) : Option (Int32 × zI) :=
  f_X7_coveredBy_41 F K R a0 k4 I x1 x3 s0 (0 : Int32)
def g_X7_coveredBy_4 (F : Nat) (K : zK) (R : zR) (a0 : Nat)  (kself : zI → Int32 → Int32 → Int32 → Option (Int32 × zI)) (I : zI) (x1 : Int32) (x2 : Int32) (x3 : Int32) : Option (Int32 × zI) :=
  if (8 : Int32) ≤ x3 then
    some (x2, I)
  else
    zbd (f_X7_isEmpty F K I R a0 x3) fun v3 =>
    if v3 = (0 : Int32) then
      zbd2 (f_X7_matches F K I R a0 ((97 : Int32) * x1) ((97 : Int32) * x3)) fun v6 I7 =>
      if v6 = (0 : Int32) then
        f_X7_coveredBy_40 F K R a0 kself I7 x1 x3 x2
      else
        f_X7_coveredBy_41 F K R a0 kself I7 x1 x3 x2 ((1 : Int32) <<< (x3 &&& 31))
    else
      f_X7_coveredBy_40 F K R a0 kself I x1 x3 x2
def f_X7_coveredBy_4 (F : Nat) (K : zK) (R : zR) (a0 : Nat)  : Nat → zI → Int32 → Int32 → Int32 → Option (Int32 × zI)
  | 0, _, _, _, _ => none
  | t + 1, I, x1, x2, x3 => g_X7_coveredBy_4 F K R a0  (f_X7_coveredBy_4 F K R a0  t) I x1 x2 x3
def f_X7_coveredBy (F : Nat) (K : zK) (I : zI) (R : zR) (a0 : Nat) (x1 : Int32) : Option (Int32 × zI) :=
  f_X7_coveredBy_4 F K R a0 F I x1 (0 : Int32) (0 : Int32)
/-! LeastPatternsModel.covered(I)I -/
def f_X7_covered (F : Nat) (K : zK) (I : zI) (R : zR) (a0 : Nat) (x1 : Int32) : Option (Int32 × zI) :=
  zbd (f_X7_wrong F K I R a0 x1 x1 (1 : Int32)) fun v1 =>
  if v1 = (0 : Int32) then
    zbd2 (f_X7_coveredBy F K I R a0 x1) fun v4 I5 =>
    some (v4, I5)
  else
    some (v1, I)
/-! LeastPatternsModel.isLike(IIII)Z -/
def f_X7_isLike (F : Nat) (K : zK) (I : zI) (R : zR) (a0 : Nat) (x1 : Int32) (x2 : Int32) (x3 : Int32) (x4 : Int32) : Option (Int32) :=
  if x4 = (2 : Int32) then
    zbd (some (R a0 30)) fun o31 =>
    zbd (zdr K o31 1) fun a32 =>
    zbd (zrd K I a32 x2) fun v35 =>
    zbd (f_X7_sort F K I R a0 x1 v35) fun v36 =>
    zbd (some (R a0 30)) fun o38 =>
    zbd (zdr K o38 1) fun a39 =>
    zbd (zrd K I a39 x3) fun v42 =>
    zbd (f_X7_sort F K I R a0 x1 v42) fun v43 =>
    if v36 = v43 then
      zbd (some (R a0 30)) fun o46 =>
      zbd (zdr K o46 1) fun a47 =>
      zbd (zrd K I a47 x2) fun v50 =>
      zbd (f_X7_number F K I R a0 x1 v50) fun v51 =>
      zbd (some (R a0 30)) fun o53 =>
      zbd (zdr K o53 1) fun a54 =>
      zbd (zrd K I a54 x3) fun v57 =>
      zbd (f_X7_number F K I R a0 x1 v57) fun v58 =>
      if v51 = v58 then
        some (1 : Int32)
      else
        some (0 : Int32)
    else
      some (0 : Int32)
  else
    zbd (some (R a0 31)) fun o2 =>
    zbd (zdr K o2 1) fun a3 =>
    zbd (zrd K I a3 x2) fun v6 =>
    zbd (some (R a0 31)) fun o7 =>
    zbd (zdr K o7 1) fun a8 =>
    zbd (zrd K I a8 x3) fun v11 =>
    if v6 = v11 then
      zbd (some (R a0 30)) fun o13 =>
      zbd (zdr K o13 1) fun a14 =>
      zbd (zrd K I a14 x2) fun v17 =>
      zbd (some (R a0 30)) fun o18 =>
      zbd (zdr K o18 1) fun a19 =>
      zbd (zrd K I a19 x3) fun v22 =>
      zbd (some (R a0 31)) fun o23 =>
      zbd (zdr K o23 1) fun a24 =>
      zbd (zrd K I a24 x2) fun v27 =>
      zbd (f_X7_isSame F K I R a0 x1 v17 x1 v22 v27) fun v28 =>
      if v28 = (0 : Int32) then
        some (0 : Int32)
      else
        some (1 : Int32)
    else
      some (0 : Int32)
/-! LeastPatternsModel.lastSort(II)I -/
def g_X7_lastSort_10 (F : Nat) (K : zK) (I : zI) (R : zR) (a0 : Nat)  (kself : Int32 → Int32 → Int32 → Int32 → Option (Int32)) (x1 : Int32) (x2 : Int32) (x3 : Int32) (x4 : Int32) : Option (Int32) :=
  zbd (some (R a0 30)) fun o1 =>
  zbd (zdr K o1 1) fun a2 =>
  zbd (zrd K I a2 x2) fun v5 =>
  zbd (some (R a0 31)) fun o6 =>
  zbd (zdr K o6 1) fun a7 =>
  zbd (zrd K I a7 x2) fun v10 =>
  if (v5 + v10) ≤ x3 then
    zbd (f_X7_sort F K I R a0 x1 x4) fun v12 =>
    some v12
  else
    zbd (some (R a0 6)) fun o14 =>
    zbd (zdr K o14 1) fun a15 =>
    zbd (zrd K I a15 x3) fun v18 =>
    zbd (some (x3 + v18)) fun v19 =>
    kself x1 x2 v19 x3
def f_X7_lastSort_10 (F : Nat) (K : zK) (I : zI) (R : zR) (a0 : Nat)  : Nat → Int32 → Int32 → Int32 → Int32 → Option (Int32)
  | 0, _, _, _, _ => none
  | t + 1, x1, x2, x3, x4 => g_X7_lastSort_10 F K I R a0  (f_X7_lastSort_10 F K I R a0  t) x1 x2 x3 x4
def f_X7_lastSort (F : Nat) (K : zK) (I : zI) (R : zR) (a0 : Nat) (x1 : Int32) (x2 : Int32) : Option (Int32) :=
  zbd (some (R a0 30)) fun o20 =>
  zbd (zdr K o20 1) fun a21 =>
  zbd (zrd K I a21 x2) fun v24 =>
  f_X7_lastSort_10 F K I R a0 F x1 x2 v24 v24
/-! LeastPatternsModel.lays(IIZ)V -/
def f_X7_lays_505 (F : Nat) (K : zK) (R : zR) (a0 : Nat) (k10 : zI → Int32 → Int32 → Int32 → Option (zI)) (I : zI) (x2 : Int32) (x3 : Int32) (x4 : Int32) (s0 : Option Nat) (s1 : Int32) (s2 : Int32) : Option (zI) :=
  zbd (zdr K s0 2) fun a1 =>
  zbd (zwrZ K I a1 s1 s2) fun I4 =>
  k10 I4 x2 x3 (x4 + (1 : Int32))
def f_X7_lays_504 (F : Nat) (K : zK) (R : zR) (a0 : Nat) (k10 : zI → Int32 → Int32 → Int32 → Option (zI)) (I : zI) (x2 : Int32) (x3 : Int32) (x4 : Int32) (s0 : Option Nat) (s1 : Int32) : Option (zI) :=
  f_X7_lays_505 F K R a0 k10 I x2 x3 x4 s0 s1 (0 : Int32)
def f_X7_lays_500 (F : Nat) (K : zK) (R : zR) (a0 : Nat) (k10 : zI → Int32 → Int32 → Int32 → Option (zI)) (I : zI) (x2 : Int32) (x3 : Int32) (x4 : Int32) (s0 : Option Nat) (s1 : Int32) : Option (zI) :=
  f_X7_lays_505 F K R a0 k10 I x2 x3 x4 s0 s1 (1 : Int32)
def f_X7_lays_453 (F : Nat) (K : zK) (R : zR) (a0 : Nat) (k10 : zI → Int32 → Int32 → Int32 → Option (zI)) (I : zI) (x2 : Int32) (x3 : Int32) (x4 : Int32) (x10 : Int32) (s0 : Option Nat) (s1 : Int32) (s2 : Int32) : Option (zI) :=
  zbd (zdr K s0 2) fun a5 =>
  zbd (zwrZ K I a5 s1 s2) fun I8 =>
  zbd (some (R a0 38)) fun o9 =>
  if x10 = (0 : Int32) then
    f_X7_lays_504 F K R a0 k10 I8 x2 x3 x4 o9 x4
  else
    zbd (some (R a0 31)) fun o11 =>
    zbd (zdr K o11 1) fun a12 =>
    zbd (zrd K I8 a12 x4) fun v15 =>
    if v15 ≤ (0 : Int32) then
      f_X7_lays_504 F K R a0 k10 I8 x2 x3 x4 o9 x4
    else
      zbd (f_X7_lastSort F K I8 R a0 x2 x4) fun v17 =>
      if v17 = (3 : Int32) then
        f_X7_lays_504 F K R a0 k10 I8 x2 x3 x4 o9 x4
      else
        if x3 = (0 : Int32) then
          zbd (some (R a0 38)) fun o21 =>
          zbd (zdr K o21 2) fun a22 =>
          zbd (zrd K I8 a22 x4) fun v25 =>
          if v25 = (0 : Int32) then
            f_X7_lays_504 F K R a0 k10 I8 x2 x3 x4 o9 x4
          else
            f_X7_lays_500 F K R a0 k10 I8 x2 x3 x4 o9 x4
        else
          f_X7_lays_500 F K R a0 k10 I8 x2 x3 x4 o9 x4
def f_X7_lays_452 (F : Nat) (K : zK) (R : zR) (a0 : Nat) (k10 : zI → Int32 → Int32 → Int32 → Option (zI)) (I : zI) (x2 : Int32) (x3 : Int32) (x4 : Int32) (x10 : Int32) (s0 : Option Nat) (s1 : Int32) : Option (zI) :=
  f_X7_lays_453 F K R a0 k10 I x2 x3 x4 x10 s0 s1 (0 : Int32)
def f_X7_lays_448 (F : Nat) (K : zK) (R : zR) (a0 : Nat) (k10 : zI → Int32 → Int32 → Int32 → Option (zI)) (I : zI) (x2 : Int32) (x3 : Int32) (x4 : Int32) (x10 : Int32) (s0 : Option Nat) (s1 : Int32) : Option (zI) :=
  f_X7_lays_453 F K R a0 k10 I x2 x3 x4 x10 s0 s1 (1 : Int32)
def f_X7_lays_396 (F : Nat) (K : zK) (R : zR) (a0 : Nat) (k10 : zI → Int32 → Int32 → Int32 → Option (zI)) (I : zI) (x2 : Int32) (x3 : Int32) (x4 : Int32) (x10 : Int32) (s0 : Option Nat) (s1 : Int32) (s2 : Int32) : Option (zI) :=
  zbd (zdr K s0 2) fun a27 =>
  zbd (zwrZ K I a27 s1 s2) fun I30 =>
  zbd (some (R a0 37)) fun o31 =>
  if x10 = (0 : Int32) then
    f_X7_lays_452 F K R a0 k10 I30 x2 x3 x4 x10 o31 x4
  else
    zbd (some (R a0 31)) fun o33 =>
    zbd (zdr K o33 1) fun a34 =>
    zbd (zrd K I30 a34 x4) fun v37 =>
    if v37 ≤ (0 : Int32) then
      f_X7_lays_452 F K R a0 k10 I30 x2 x3 x4 x10 o31 x4
    else
      zbd (some (R a0 30)) fun o39 =>
      zbd (zdr K o39 1) fun a40 =>
      zbd (zrd K I30 a40 x4) fun v43 =>
      zbd (f_X7_sort F K I30 R a0 x2 v43) fun v44 =>
      if v44 = (3 : Int32) then
        f_X7_lays_452 F K R a0 k10 I30 x2 x3 x4 x10 o31 x4
      else
        if x3 = (0 : Int32) then
          zbd (some (R a0 37)) fun o48 =>
          zbd (zdr K o48 2) fun a49 =>
          zbd (zrd K I30 a49 x4) fun v52 =>
          if v52 = (0 : Int32) then
            f_X7_lays_452 F K R a0 k10 I30 x2 x3 x4 x10 o31 x4
          else
            f_X7_lays_448 F K R a0 k10 I30 x2 x3 x4 x10 o31 x4
        else
          f_X7_lays_448 F K R a0 k10 I30 x2 x3 x4 x10 o31 x4
def f_X7_lays_395 (F : Nat) (K : zK) (R : zR) (a0 : Nat) (k10 : zI → Int32 → Int32 → Int32 → Option (zI)) (I : zI) (x2 : Int32) (x3 : Int32) (x4 : Int32) (x10 : Int32) (s0 : Option Nat) (s1 : Int32) : Option (zI) :=
  f_X7_lays_396 F K R a0 k10 I x2 x3 x4 x10 s0 s1 (0 : Int32)
def f_X7_lays_391 (F : Nat) (K : zK) (R : zR) (a0 : Nat) (k10 : zI → Int32 → Int32 → Int32 → Option (zI)) (I : zI) (x2 : Int32) (x3 : Int32) (x4 : Int32) (x10 : Int32) (s0 : Option Nat) (s1 : Int32) : Option (zI) :=
  f_X7_lays_396 F K R a0 k10 I x2 x3 x4 x10 s0 s1 (1 : Int32)
def f_X7_lays_354 (F : Nat) (K : zK) (R : zR) (a0 : Nat) (k10 : zI → Int32 → Int32 → Int32 → Option (zI)) (I : zI) (x2 : Int32) (x3 : Int32) (x4 : Int32) (s0 : Int32) : Option (zI) :=
  zbd (some (R a0 36)) fun o54 =>
  if s0 = (0 : Int32) then
    f_X7_lays_395 F K R a0 k10 I x2 x3 x4 s0 o54 x4
  else
    zbd (some (R a0 31)) fun o56 =>
    zbd (zdr K o56 1) fun a57 =>
    zbd (zrd K I a57 x4) fun v60 =>
    if v60 = (0 : Int32) then
      if x3 = (0 : Int32) then
        zbd (some (R a0 36)) fun o63 =>
        zbd (zdr K o63 2) fun a64 =>
        zbd (zrd K I a64 x4) fun v67 =>
        if v67 = (0 : Int32) then
          f_X7_lays_395 F K R a0 k10 I x2 x3 x4 s0 o54 x4
        else
          f_X7_lays_391 F K R a0 k10 I x2 x3 x4 s0 o54 x4
      else
        f_X7_lays_391 F K R a0 k10 I x2 x3 x4 s0 o54 x4
    else
      f_X7_lays_395 F K R a0 k10 I x2 x3 x4 s0 o54 x4
def f_X7_lays_333 (F : Nat) (K : zK) (R : zR) (a0 : Nat) (k10 : zI → Int32 → Int32 → Int32 → Option (zI)) (I : zI) (x2 : Int32) (x3 : Int32) (x4 : Int32) (x5 : Int32) (x7 : Int32) (s0 : Option Nat) (s1 : Int32) (s2 : Int32) : Option (zI) :=
  zbd (zdr K s0 1) fun a69 =>
  zbd (zwr K I a69 s1 s2) fun I72 =>
  zbd (some (R a0 35)) fun o73 =>
  zbd (zdr K o73 1) fun a74 =>
  zbd (zwr K I72 a74 x4 x7) fun I77 =>
  if x5 = (3 : Int32) then
    f_X7_lays_354 F K R a0 k10 I77 x2 x3 x4 (1 : Int32)
  else
    f_X7_lays_354 F K R a0 k10 I77 x2 x3 x4 (0 : Int32)
def f_X7_lays_313 (F : Nat) (K : zK) (R : zR) (a0 : Nat) (k10 : zI → Int32 → Int32 → Int32 → Option (zI)) (I : zI) (x2 : Int32) (x3 : Int32) (x4 : Int32) (x5 : Int32) (x7 : Int32) (x8 : Int32) (s0 : Int32) : Option (zI) :=
  zbd (some (R a0 34)) fun o79 =>
  if s0 = (0 : Int32) then
    f_X7_lays_333 F K R a0 k10 I x2 x3 x4 x5 x7 o79 x4 (-9 : Int32)
  else
    f_X7_lays_333 F K R a0 k10 I x2 x3 x4 x5 x7 o79 x4 x8
def f_X7_lays_312 (F : Nat) (K : zK) (R : zR) (a0 : Nat) (k10 : zI → Int32 → Int32 → Int32 → Option (zI)) (I : zI) (x2 : Int32) (x3 : Int32) (x4 : Int32) (x5 : Int32) (x7 : Int32) (x8 : Int32) : Option (zI) :=
  f_X7_lays_313 F K R a0 k10 I x2 x3 x4 x5 x7 x8 (0 : Int32)
def f_X7_lays_308 (F : Nat) (K : zK) (R : zR) (a0 : Nat) (k10 : zI → Int32 → Int32 → Int32 → Option (zI)) (I : zI) (x2 : Int32) (x3 : Int32) (x4 : Int32) (x5 : Int32) (x7 : Int32) (x8 : Int32) : Option (zI) :=
  f_X7_lays_313 F K R a0 k10 I x2 x3 x4 x5 x7 x8 (1 : Int32)
def f_X7_lays_278 (F : Nat) (K : zK) (R : zR) (a0 : Nat) (k10 : zI → Int32 → Int32 → Int32 → Option (zI)) (I : zI) (x2 : Int32) (x3 : Int32) (x4 : Int32) (x5 : Int32) (x7 : Int32) (s0 : Int32) : Option (zI) :=
  if x3 = (0 : Int32) then
    zbd (some (R a0 34)) fun o82 =>
    zbd (zdr K o82 1) fun a83 =>
    zbd (zrd K I a83 x4) fun v86 =>
    if v86 = s0 then
      zbd (some (R a0 35)) fun o88 =>
      zbd (zdr K o88 1) fun a89 =>
      zbd (zrd K I a89 x4) fun v92 =>
      if v92 = x7 then
        f_X7_lays_308 F K R a0 k10 I x2 x3 x4 x5 x7 s0
      else
        f_X7_lays_312 F K R a0 k10 I x2 x3 x4 x5 x7 s0
    else
      f_X7_lays_312 F K R a0 k10 I x2 x3 x4 x5 x7 s0
  else
    f_X7_lays_308 F K R a0 k10 I x2 x3 x4 x5 x7 s0
def f_X7_lays_254 (F : Nat) (K : zK) (R : zR) (a0 : Nat) (k10 : zI → Int32 → Int32 → Int32 → Option (zI)) (I : zI) (x2 : Int32) (x3 : Int32) (x4 : Int32) (x5 : Int32) (x6 : Int32) (s0 : Int32) : Option (zI) :=
  if x6 = (0 : Int32) then
    f_X7_lays_278 F K R a0 k10 I x2 x3 x4 x5 s0 (-9 : Int32)
  else
    zbd (some (R a0 30)) fun o95 =>
    zbd (zdr K o95 1) fun a96 =>
    zbd (zrd K I a96 x4) fun v99 =>
    zbd (f_X7_number F K I R a0 x2 v99) fun v100 =>
    f_X7_lays_278 F K R a0 k10 I x2 x3 x4 x5 s0 v100
def f_X7_lays_238 (F : Nat) (K : zK) (R : zR) (a0 : Nat) (k10 : zI → Int32 → Int32 → Int32 → Option (zI)) (I : zI) (x2 : Int32) (x3 : Int32) (x4 : Int32) (x5 : Int32) (x6 : Int32) : Option (zI) :=
  f_X7_lays_254 F K R a0 k10 I x2 x3 x4 x5 x6 (0 : Int32)
def f_X7_lays_225 (F : Nat) (K : zK) (R : zR) (a0 : Nat) (k10 : zI → Int32 → Int32 → Int32 → Option (zI)) (I : zI) (x2 : Int32) (x3 : Int32) (x4 : Int32) (x5 : Int32) (s0 : Int32) : Option (zI) :=
  if s0 = (0 : Int32) then
    f_X7_lays_238 F K R a0 k10 I x2 x3 x4 x5 s0
  else
    if x5 = (2 : Int32) then
      f_X7_lays_238 F K R a0 k10 I x2 x3 x4 x5 s0
    else
      zbd (some (R a0 30)) fun o104 =>
      zbd (zdr K o104 1) fun a105 =>
      zbd (zrd K I a105 x4) fun v108 =>
      zbd (f_X7_arguments F K I R a0 x2 v108) fun v109 =>
      f_X7_lays_254 F K R a0 k10 I x2 x3 x4 x5 s0 v109
def f_X7_lays_224 (F : Nat) (K : zK) (R : zR) (a0 : Nat) (k10 : zI → Int32 → Int32 → Int32 → Option (zI)) (I : zI) (x2 : Int32) (x3 : Int32) (x4 : Int32) (x5 : Int32) : Option (zI) :=
  f_X7_lays_225 F K R a0 k10 I x2 x3 x4 x5 (0 : Int32)
def f_X7_lays_220 (F : Nat) (K : zK) (R : zR) (a0 : Nat) (k10 : zI → Int32 → Int32 → Int32 → Option (zI)) (I : zI) (x2 : Int32) (x3 : Int32) (x4 : Int32) (x5 : Int32) : Option (zI) :=
  f_X7_lays_225 F K R a0 k10 I x2 x3 x4 x5 (1 : Int32)
def f_X7_lays_199 (F : Nat) (K : zK) (R : zR) (a0 : Nat) (k10 : zI → Int32 → Int32 → Int32 → Option (zI)) (I : zI) (x2 : Int32) (x3 : Int32) (x4 : Int32) (x5 : Int32) : Option (zI) :=
  if x5 = (2 : Int32) then
    zbd (some (R a0 30)) fun o112 =>
    zbd (zdr K o112 1) fun a113 =>
    zbd (zrd K I a113 x4) fun v116 =>
    zbd (f_X7_sort F K I R a0 x2 v116) fun v117 =>
    if v117 = (0 : Int32) then
      f_X7_lays_220 F K R a0 k10 I x2 x3 x4 x5
    else
      f_X7_lays_224 F K R a0 k10 I x2 x3 x4 x5
  else
    f_X7_lays_224 F K R a0 k10 I x2 x3 x4 x5
def f_X7_lays_150 (F : Nat) (K : zK) (R : zR) (a0 : Nat) (k10 : zI → Int32 → Int32 → Int32 → Option (zI)) (k44 : zI → Int32 → Int32 → Int32 → Int32 → Int32 → Option (zI)) (I : zI) (x2 : Int32) (x3 : Int32) (x4 : Int32) (x5 : Int32) (x6 : Int32) (s0 : Option Nat) (s1 : Int32) (s2 : Int32) : Option (zI) :=
  zbd (zdr K s0 2) fun a120 =>
  zbd (zwrZ K I a120 s1 s2) fun I123 =>
  k44 I123 x2 x3 x4 x5 (x6 + (1 : Int32))
def f_X7_lays_149 (F : Nat) (K : zK) (R : zR) (a0 : Nat) (k10 : zI → Int32 → Int32 → Int32 → Option (zI)) (k44 : zI → Int32 → Int32 → Int32 → Int32 → Int32 → Option (zI)) (I : zI) (x2 : Int32) (x3 : Int32) (x4 : Int32) (x5 : Int32) (x6 : Int32) (s0 : Option Nat) (s1 : Int32) : Option (zI) :=
  f_X7_lays_150 F K R a0 k10 k44 I x2 x3 x4 x5 x6 s0 s1 (0 : Int32)
def f_X7_lays_145 (F : Nat) (K : zK) (R : zR) (a0 : Nat) (k10 : zI → Int32 → Int32 → Int32 → Option (zI)) (k44 : zI → Int32 → Int32 → Int32 → Int32 → Int32 → Option (zI)) (I : zI) (x2 : Int32) (x3 : Int32) (x4 : Int32) (x5 : Int32) (x6 : Int32) (s0 : Option Nat) (s1 : Int32) : Option (zI) :=
  f_X7_lays_150 F K R a0 k10 k44 I x2 x3 x4 x5 x6 s0 s1 (1 : Int32)
def f_X7_lays_106 (F : Nat) (K : zK) (R : zR) (a0 : Nat) (k10 : zI → Int32 → Int32 → Int32 → Option (zI)) (k44 : zI → Int32 → Int32 → Int32 → Int32 → Int32 → Option (zI)) (I : zI) (x2 : Int32) (x3 : Int32) (x4 : Int32) (x5 : Int32) (x6 : Int32) (s0 : Int32) : Option (zI) :=
  zbd (some (R a0 33)) fun o124 =>
  if s0 = (0 : Int32) then
    f_X7_lays_149 F K R a0 k10 k44 I x2 x3 x4 x5 x6 o124 (((10 : Int32) * x4) + x6)
  else
    if x3 = (0 : Int32) then
      zbd (some (R a0 33)) fun o127 =>
      zbd (zdr K o127 2) fun a128 =>
      zbd (zrd K I a128 (((10 : Int32) * x4) + x6)) fun v131 =>
      if v131 = (0 : Int32) then
        f_X7_lays_149 F K R a0 k10 k44 I x2 x3 x4 x5 x6 o124 (((10 : Int32) * x4) + x6)
      else
        f_X7_lays_145 F K R a0 k10 k44 I x2 x3 x4 x5 x6 o124 (((10 : Int32) * x4) + x6)
    else
      f_X7_lays_145 F K R a0 k10 k44 I x2 x3 x4 x5 x6 o124 (((10 : Int32) * x4) + x6)
def f_X7_lays_105 (F : Nat) (K : zK) (R : zR) (a0 : Nat) (k10 : zI → Int32 → Int32 → Int32 → Option (zI)) (k44 : zI → Int32 → Int32 → Int32 → Int32 → Int32 → Option (zI)) (I : zI) (x2 : Int32) (x3 : Int32) (x4 : Int32) (x5 : Int32) (x6 : Int32) : Option (zI) :=
  f_X7_lays_106 F K R a0 k10 k44 I x2 x3 x4 x5 x6 (0 : Int32)
def g_X7_lays_44 (F : Nat) (K : zK) (R : zR) (a0 : Nat) (k10 : zI → Int32 → Int32 → Int32 → Option (zI)) (kself : zI → Int32 → Int32 → Int32 → Int32 → Int32 → Option (zI)) (I : zI) (x2 : Int32) (x3 : Int32) (x4 : Int32) (x5 : Int32) (x6 : Int32) : Option (zI) :=
  if (10 : Int32) ≤ x6 then
    if x5 = (1 : Int32) then
      zbd (some (R a0 30)) fun o135 =>
      zbd (zdr K o135 1) fun a136 =>
      zbd (zrd K I a136 x4) fun v139 =>
      zbd (f_X7_sort F K I R a0 x2 v139) fun v140 =>
      if v140 = (0 : Int32) then
        zbd (some (R a0 30)) fun o143 =>
        zbd (zdr K o143 1) fun a144 =>
        zbd (zrd K I a144 x4) fun v147 =>
        zbd (some (R a0 6)) fun o148 =>
        zbd (f_X7_sequenceOf F K I R a0 x2 v147 o148) fun v149 =>
        if v149 = (-9 : Int32) then
          f_X7_lays_220 F K R a0 k10 I x2 x3 x4 x5
        else
          f_X7_lays_199 F K R a0 k10 I x2 x3 x4 x5
      else
        f_X7_lays_199 F K R a0 k10 I x2 x3 x4 x5
    else
      f_X7_lays_199 F K R a0 k10 I x2 x3 x4 x5
  else
    if x6 = x4 then
      f_X7_lays_105 F K R a0 k10 kself I x2 x3 x4 x5 x6
    else
      if x5 = (-9 : Int32) then
        f_X7_lays_105 F K R a0 k10 kself I x2 x3 x4 x5 x6
      else
        zbd (some (R a0 31)) fun o154 =>
        zbd (zdr K o154 1) fun a155 =>
        zbd (zrd K I a155 x6) fun v158 =>
        if v158 < (0 : Int32) then
          f_X7_lays_105 F K R a0 k10 kself I x2 x3 x4 x5 x6
        else
          zbd (some (R a0 17)) fun o160 =>
          zbd (zdr K o160 1) fun a161 =>
          zbd (zrd K I a161 x6) fun v164 =>
          if v164 = x5 then
            zbd (f_X7_isLike F K I R a0 x2 x4 x6 x5) fun v166 =>
            if v166 = (0 : Int32) then
              f_X7_lays_105 F K R a0 k10 kself I x2 x3 x4 x5 x6
            else
              f_X7_lays_106 F K R a0 k10 kself I x2 x3 x4 x5 x6 (1 : Int32)
          else
            f_X7_lays_105 F K R a0 k10 kself I x2 x3 x4 x5 x6
def f_X7_lays_44 (F : Nat) (K : zK) (R : zR) (a0 : Nat) (k10 : zI → Int32 → Int32 → Int32 → Option (zI)) : Nat → zI → Int32 → Int32 → Int32 → Int32 → Int32 → Option (zI)
  | 0, _, _, _, _, _, _ => none
  | t + 1, I, x2, x3, x4, x5, x6 => g_X7_lays_44 F K R a0 k10 (f_X7_lays_44 F K R a0 k10 t) I x2 x3 x4 x5 x6
def f_X7_lays_39 (F : Nat) (K : zK) (R : zR) (a0 : Nat) (k10 : zI → Int32 → Int32 → Int32 → Option (zI)) (I : zI) (x2 : Int32) (x3 : Int32) (x4 : Int32) (s0 : Int32) : Option (zI) :=
  f_X7_lays_44 F K R a0 k10 F I x2 x3 x4 s0 (0 : Int32)
def g_X7_lays_10 (F : Nat) (K : zK) (R : zR) (a0 : Nat)  (kself : zI → Int32 → Int32 → Int32 → Option (zI)) (I : zI) (x2 : Int32) (x3 : Int32) (x4 : Int32) : Option (zI) :=
  if (10 : Int32) ≤ x4 then
    some I
  else
    zbd (some (R a0 31)) fun o170 =>
    zbd (zdr K o170 1) fun a171 =>
    zbd (zrd K I a171 x4) fun v174 =>
    if (0 : Int32) ≤ v174 then
      zbd (some (R a0 17)) fun o176 =>
      zbd (zdr K o176 1) fun a177 =>
      zbd (zrd K I a177 x4) fun v180 =>
      f_X7_lays_39 F K R a0 kself I x2 x3 x4 v180
    else
      f_X7_lays_39 F K R a0 kself I x2 x3 x4 (-9 : Int32)
def f_X7_lays_10 (F : Nat) (K : zK) (R : zR) (a0 : Nat)  : Nat → zI → Int32 → Int32 → Int32 → Option (zI)
  | 0, _, _, _, _ => none
  | t + 1, I, x2, x3, x4 => g_X7_lays_10 F K R a0  (f_X7_lays_10 F K R a0  t) I x2 x3 x4
def f_X7_lays (F : Nat) (K : zK) (I : zI) (R : zR) (a0 : Nat) (x1 : Int32) (x2 : Int32) (x3 : Int32) : Option (zI) :=
  zbd2 (f_X7_matches F K I R a0 x1 x2) fun v181 I182 =>
  f_X7_lays_10 F K R a0 F I182 x2 x3 (0 : Int32)
/-! LeastPatternsModel.isLeast(III)I -/
def f_X7_isLeast_264 (F : Nat) (K : zK) (R : zR) (a0 : Nat) (k167 : zI → Int32 → Int32 → Option (Int32 × zI)) (k231 : zI → Int32 → Int32 → Int32 → Option (Int32 × zI)) (I : zI) (x6 : Int32) (x7 : Int32) (s0 : Int32) : Option (Int32 × zI) :=
  k231 I s0 x6 (x7 + (1 : Int32))
def f_X7_isLeast_263 (F : Nat) (K : zK) (R : zR) (a0 : Nat) (k167 : zI → Int32 → Int32 → Option (Int32 × zI)) (k231 : zI → Int32 → Int32 → Int32 → Option (Int32 × zI)) (I : zI) (x6 : Int32) (x7 : Int32) : Option (Int32 × zI) :=
  f_X7_isLeast_264 F K R a0 k167 k231 I x6 x7 (0 : Int32)
def g_X7_isLeast_231 (F : Nat) (K : zK) (R : zR) (a0 : Nat) (k167 : zI → Int32 → Int32 → Option (Int32 × zI)) (kself : zI → Int32 → Int32 → Int32 → Option (Int32 × zI)) (I : zI) (x5 : Int32) (x6 : Int32) (x7 : Int32) : Option (Int32 × zI) :=
  if (10 : Int32) ≤ x7 then
    k167 I x5 (x6 + (1 : Int32))
  else
    if x5 = (0 : Int32) then
      f_X7_isLeast_263 F K R a0 k167 kself I x6 x7
    else
      zbd (some (R a0 33)) fun o3 =>
      zbd (zdr K o3 2) fun a4 =>
      zbd (zrd K I a4 (((10 : Int32) * x6) + x7)) fun v7 =>
      if v7 = (0 : Int32) then
        f_X7_isLeast_264 F K R a0 k167 kself I x6 x7 (1 : Int32)
      else
        f_X7_isLeast_263 F K R a0 k167 kself I x6 x7
def f_X7_isLeast_231 (F : Nat) (K : zK) (R : zR) (a0 : Nat) (k167 : zI → Int32 → Int32 → Option (Int32 × zI)) : Nat → zI → Int32 → Int32 → Int32 → Option (Int32 × zI)
  | 0, _, _, _, _ => none
  | t + 1, I, x5, x6, x7 => g_X7_isLeast_231 F K R a0 k167 (f_X7_isLeast_231 F K R a0 k167 t) I x5 x6 x7
def f_X7_isLeast_226 (F : Nat) (K : zK) (R : zR) (a0 : Nat) (k167 : zI → Int32 → Int32 → Option (Int32 × zI)) (I : zI) (x6 : Int32) (s0 : Int32) : Option (Int32 × zI) :=
  f_X7_isLeast_231 F K R a0 k167 F I s0 x6 (0 : Int32)
def f_X7_isLeast_225 (F : Nat) (K : zK) (R : zR) (a0 : Nat) (k167 : zI → Int32 → Int32 → Option (Int32 × zI)) (I : zI) (x6 : Int32) : Option (Int32 × zI) :=
  f_X7_isLeast_226 F K R a0 k167 I x6 (0 : Int32)
def g_X7_isLeast_167 (F : Nat) (K : zK) (R : zR) (a0 : Nat)  (kself : zI → Int32 → Int32 → Option (Int32 × zI)) (I : zI) (x5 : Int32) (x6 : Int32) : Option (Int32 × zI) :=
  if (10 : Int32) ≤ x6 then
    if x5 = (0 : Int32) then
      some ((0 : Int32), I)
    else
      some ((1 : Int32), I)
  else
    if x5 = (0 : Int32) then
      f_X7_isLeast_225 F K R a0 kself I x6
    else
      zbd (some (R a0 34)) fun o12 =>
      zbd (zdr K o12 1) fun a13 =>
      zbd (zrd K I a13 x6) fun v16 =>
      if v16 = (-9 : Int32) then
        zbd (some (R a0 36)) fun o18 =>
        zbd (zdr K o18 2) fun a19 =>
        zbd (zrd K I a19 x6) fun v22 =>
        if v22 = (0 : Int32) then
          zbd (some (R a0 37)) fun o24 =>
          zbd (zdr K o24 2) fun a25 =>
          zbd (zrd K I a25 x6) fun v28 =>
          if v28 = (0 : Int32) then
            zbd (some (R a0 38)) fun o30 =>
            zbd (zdr K o30 2) fun a31 =>
            zbd (zrd K I a31 x6) fun v34 =>
            if v34 = (0 : Int32) then
              f_X7_isLeast_226 F K R a0 kself I x6 (1 : Int32)
            else
              f_X7_isLeast_225 F K R a0 kself I x6
          else
            f_X7_isLeast_225 F K R a0 kself I x6
        else
          f_X7_isLeast_225 F K R a0 kself I x6
      else
        f_X7_isLeast_225 F K R a0 kself I x6
def f_X7_isLeast_167 (F : Nat) (K : zK) (R : zR) (a0 : Nat)  : Nat → zI → Int32 → Int32 → Option (Int32 × zI)
  | 0, _, _, _ => none
  | t + 1, I, x5, x6 => g_X7_isLeast_167 F K R a0  (f_X7_isLeast_167 F K R a0  t) I x5 x6
def f_X7_isLeast_129 (F : Nat) (K : zK) (R : zR) (a0 : Nat) (k77 : zI → Int32 → Int32 → Int32 → Int32 → Option (Int32 × zI)) (I : zI) (x1 : Int32) (x2 : Int32) (x3 : Int32) (x5 : Int32) : Option (Int32 × zI) :=
  k77 I x1 x2 x3 (x5 + (1 : Int32))
def g_X7_isLeast_77 (F : Nat) (K : zK) (R : zR) (a0 : Nat)  (kself : zI → Int32 → Int32 → Int32 → Int32 → Option (Int32 × zI)) (I : zI) (x1 : Int32) (x2 : Int32) (x3 : Int32) (x5 : Int32) : Option (Int32 × zI) :=
  zbd (some (R a0 0)) fun o36 =>
  zbd (zdr K o36 1) fun a37 =>
  zbd (zrd K I a37 ((97 : Int32) * x1)) fun v40 =>
  if v40 ≤ x5 then
    zbd (f_X7_lays F K I R a0 ((97 : Int32) * x1) ((97 : Int32) * x2) (1 : Int32)) fun I42 =>
    zbd (f_X7_lays F K I42 R a0 ((97 : Int32) * x1) ((97 : Int32) * x3) (0 : Int32)) fun I44 =>
    f_X7_isLeast_167 F K R a0 F I44 (1 : Int32) (0 : Int32)
  else
    zbd (f_X7_sort F K I R a0 ((97 : Int32) * x1) x5) fun v46 =>
    if v46 = (0 : Int32) then
      f_X7_isLeast_129 F K R a0 kself I x1 x2 x3 x5
    else
      zbd (some (R a0 17)) fun o49 =>
      zbd (f_X7_number F K I R a0 ((97 : Int32) * x1) x5) fun v50 =>
      zbd (f_X7_sort F K I R a0 ((97 : Int32) * x1) x5) fun v52 =>
      zbd (zdr K o49 1) fun a54 =>
      zbd (zwr K I a54 v50 v52) fun I57 =>
      f_X7_isLeast_129 F K R a0 kself I57 x1 x2 x3 x5
def f_X7_isLeast_77 (F : Nat) (K : zK) (R : zR) (a0 : Nat)  : Nat → zI → Int32 → Int32 → Int32 → Int32 → Option (Int32 × zI)
  | 0, _, _, _, _, _ => none
  | t + 1, I, x1, x2, x3, x5 => g_X7_isLeast_77 F K R a0  (f_X7_isLeast_77 F K R a0  t) I x1 x2 x3 x5
def f_X7_isLeast_32 (F : Nat) (K : zK) (R : zR) (a0 : Nat)  (I : zI) (x1 : Int32) (x2 : Int32) (x3 : Int32) (s0 : Int32) : Option (Int32 × zI) :=
  if s0 = (0 : Int32) then
    zbd2 (f_X7_matches F K I R a0 ((97 : Int32) * x1) ((97 : Int32) * x2)) fun v59 I60 =>
    if v59 = (0 : Int32) then
      some ((0 : Int32), I60)
    else
      zbd2 (f_X7_matches F K I60 R a0 ((97 : Int32) * x1) ((97 : Int32) * x3)) fun v63 I64 =>
      if v63 = (0 : Int32) then
        some ((0 : Int32), I64)
      else
        f_X7_isLeast_77 F K R a0 F I64 x1 x2 x3 (0 : Int32)
  else
    some (s0, I)
def f_X7_isLeast_30 (F : Nat) (K : zK) (R : zR) (a0 : Nat)  (I : zI) (x1 : Int32) (x2 : Int32) (x3 : Int32) (x4 : Int32) : Option (Int32 × zI) :=
  f_X7_isLeast_32 F K R a0 I x1 x2 x3 x4
def f_X7_isLeast (F : Nat) (K : zK) (I : zI) (R : zR) (a0 : Nat) (x1 : Int32) (x2 : Int32) (x3 : Int32) : Option (Int32 × zI) :=
  zbd (f_X7_isRegister F K I R x3) fun v67 =>
  zbd (f_X7_wrong F K I R a0 x1 x2 v67) fun v69 =>
  if v69 = (0 : Int32) then
    zbd (f_X7_isEmpty F K I R a0 x3) fun v72 =>
    if v72 = (0 : Int32) then
      f_X7_isLeast_30 F K R a0 I x1 x2 x3 v69
    else
      f_X7_isLeast_32 F K R a0 I x1 x2 x3 (-2 : Int32)
  else
    f_X7_isLeast_30 F K R a0 I x1 x2 x3 v69
/-! LeastPatternsModel.learn(IIIIII)I -/
def f_X7_learn (F : Nat) (K : zK) (I : zI) (R : zR) (a0 : Nat) (x1 : Int32) (x2 : Int32) (x3 : Int32) (x4 : Int32) (x5 : Int32) (x6 : Int32) : Option (Int32 × zI) :=
  zbd (f_X7_isRegister F K I R x1) fun v1 =>
  if v1 = (0 : Int32) then
    some ((-1 : Int32), I)
  else
    zbd (f_X7_isRegister F K I R x2) fun v4 =>
    if v4 = (0 : Int32) then
      some ((-1 : Int32), I)
    else
      zbd (f_X7_isRegister F K I R x3) fun v7 =>
      if v7 = (0 : Int32) then
        some ((-1 : Int32), I)
      else
        zbd (f_X7_isRegister F K I R x4) fun v10 =>
        if v10 = (0 : Int32) then
          some ((-1 : Int32), I)
        else
          zbd (f_X7_isRegister F K I R x5) fun v13 =>
          if v13 = (0 : Int32) then
            some ((-1 : Int32), I)
          else
            zbd (f_X7_isRegister F K I R x6) fun v16 =>
            if v16 = (0 : Int32) then
              some ((-1 : Int32), I)
            else
              if x5 = x6 then
                some ((-1 : Int32), I)
              else
                zbd (f_X7_isEmpty F K I R a0 x1) fun v20 =>
                if v20 = (0 : Int32) then
                  zbd (f_X7_isEmpty F K I R a0 x2) fun v23 =>
                  if v23 = (0 : Int32) then
                    zbd (f_X7_isEmpty F K I R a0 x3) fun v26 =>
                    if v26 = (0 : Int32) then
                      zbd (f_X7_isEmpty F K I R a0 x4) fun v29 =>
                      if v29 = (0 : Int32) then
                        zbd (some (zup I a0 16 (0 : Int32))) fun I32 =>
                        zbd2 (f_X7_joins F K I32 R a0 ((97 : Int32) * x1) ((97 : Int32) * x3) (5460 : Int32)) fun v33 I34 =>
                        if v33 = (0 : Int32) then
                          some ((-3 : Int32), I34)
                        else
                          zbd2 (f_X7_joins F K I34 R a0 ((97 : Int32) * x2) ((97 : Int32) * x4) (5557 : Int32)) fun v37 I38 =>
                          if v37 = (0 : Int32) then
                            some ((-3 : Int32), I38)
                          else
                            zbd (f_X7_records F K I38 R a0) fun I41 =>
                            zbd2 (f_X7_puts F K I41 R a0 (5460 : Int32) x5) fun v43 I44 =>
                            zbd2 (f_X7_puts F K I44 R a0 (5557 : Int32) x6) fun v46 I47 =>
                            zbd (f_X7_holesOf F K I47 R a0 (5557 : Int32)) fun v49 =>
                            zbd (f_X7_holesOf F K I47 R a0 (5460 : Int32)) fun v51 =>
                            if (v49 &&& (v51 ^^^ (-1 : Int32))) = (0 : Int32) then
                              some ((1 : Int32), I47)
                            else
                              some ((0 : Int32), I47)
                      else
                        some ((-2 : Int32), I)
                    else
                      some ((-2 : Int32), I)
                  else
                    some ((-2 : Int32), I)
                else
                  some ((-2 : Int32), I)
/-! LeastPatternsModel.sortOf(II)I -/
def f_X7_sortOf_38 (F : Nat) (K : zK) (I : zI) (R : zR) (a0 : Nat) (k2 : Int32 → Int32 → Int32 → Option (Int32)) (x1 : Int32) (x2 : Int32) (x3 : Int32) : Option (Int32) :=
  k2 x1 x2 (x3 + (1 : Int32))
def g_X7_sortOf_2 (F : Nat) (K : zK) (I : zI) (R : zR) (a0 : Nat)  (kself : Int32 → Int32 → Int32 → Option (Int32)) (x1 : Int32) (x2 : Int32) (x3 : Int32) : Option (Int32) :=
  zbd (some (R a0 0)) fun o1 =>
  zbd (zdr K o1 1) fun a2 =>
  zbd (zrd K I a2 x1) fun v5 =>
  if v5 ≤ x3 then
    some (-9 : Int32)
  else
    zbd (f_X7_sort F K I R a0 x1 x3) fun v7 =>
    if v7 = (0 : Int32) then
      f_X7_sortOf_38 F K I R a0 kself x1 x2 x3
    else
      zbd (f_X7_number F K I R a0 x1 x3) fun v10 =>
      if v10 = x2 then
        zbd (f_X7_sort F K I R a0 x1 x3) fun v13 =>
        some v13
      else
        f_X7_sortOf_38 F K I R a0 kself x1 x2 x3
def f_X7_sortOf_2 (F : Nat) (K : zK) (I : zI) (R : zR) (a0 : Nat)  : Nat → Int32 → Int32 → Int32 → Option (Int32)
  | 0, _, _, _ => none
  | t + 1, x1, x2, x3 => g_X7_sortOf_2 F K I R a0  (f_X7_sortOf_2 F K I R a0  t) x1 x2 x3
def f_X7_sortOf (F : Nat) (K : zK) (I : zI) (R : zR) (a0 : Nat) (x1 : Int32) (x2 : Int32) : Option (Int32) :=
  f_X7_sortOf_2 F K I R a0 F x1 x2 (0 : Int32)
/-! LeastPatternsModel.widthOf(II)I -/
def f_X7_widthOf_49 (F : Nat) (K : zK) (I : zI) (R : zR) (a0 : Nat) (k10 : Int32 → Int32 → Int32 → Int32 → Int32 → Option (Int32)) (x1 : Int32) (x2 : Int32) (x4 : Int32) (x5 : Int32) (s0 : Int32) (s1 : Int32) : Option (Int32) :=
  zbd (some (s0 + s1)) fun v1 =>
  zbd (some (R a0 5)) fun o2 =>
  zbd (zdr K o2 1) fun a3 =>
  zbd (zrd K I a3 x4) fun v6 =>
  zbd (some (x4 + v6)) fun v7 =>
  k10 x1 x2 v1 v7 (x5 + (1 : Int32))
def g_X7_widthOf_10 (F : Nat) (K : zK) (I : zI) (R : zR) (a0 : Nat)  (kself : Int32 → Int32 → Int32 → Int32 → Int32 → Option (Int32)) (x1 : Int32) (x2 : Int32) (x3 : Int32) (x4 : Int32) (x5 : Int32) : Option (Int32) :=
  zbd (f_X7_arguments F K I R a0 x1 x2) fun v8 =>
  if v8 ≤ x5 then
    some x3
  else
    zbd (f_X7_sort F K I R a0 x1 x4) fun v11 =>
    if v11 = (3 : Int32) then
      zbd (some (R a0 32)) fun o14 =>
      zbd (f_X7_number F K I R a0 x1 x4) fun v15 =>
      zbd (zdr K o14 1) fun a17 =>
      zbd (zrd K I a17 v15) fun v20 =>
      f_X7_widthOf_49 F K I R a0 kself x1 x2 x4 x5 x3 v20
    else
      f_X7_widthOf_49 F K I R a0 kself x1 x2 x4 x5 x3 (1 : Int32)
def f_X7_widthOf_10 (F : Nat) (K : zK) (I : zI) (R : zR) (a0 : Nat)  : Nat → Int32 → Int32 → Int32 → Int32 → Int32 → Option (Int32)
  | 0, _, _, _, _, _ => none
  | t + 1, x1, x2, x3, x4, x5 => g_X7_widthOf_10 F K I R a0  (f_X7_widthOf_10 F K I R a0  t) x1 x2 x3 x4 x5
def f_X7_widthOf (F : Nat) (K : zK) (I : zI) (R : zR) (a0 : Nat) (x1 : Int32) (x2 : Int32) : Option (Int32) :=
  zbd (some (x2 + (1 : Int32))) fun v21 =>
  f_X7_widthOf_10 F K I R a0 F x1 x2 (0 : Int32) v21 (0 : Int32)
/-! LeastPatternsModel.isApplicable(III)Z -/
def f_X7_isApplicable_146 (F : Nat) (K : zK) (R : zR) (a0 : Nat) (k71 : zI → Int32 → Int32 → Int32 → Int32 → Option (Int32 × zI)) (I : zI) (x2 : Int32) (x3 : Int32) (x5 : Int32) (s0 : Int32) : Option (Int32 × zI) :=
  k71 I x2 x3 s0 (x5 + (1 : Int32))
def f_X7_isApplicable_141 (F : Nat) (K : zK) (R : zR) (a0 : Nat) (k71 : zI → Int32 → Int32 → Int32 → Int32 → Option (Int32 × zI)) (I : zI) (x2 : Int32) (x3 : Int32) (x5 : Int32) : Option (Int32 × zI) :=
  f_X7_isApplicable_146 F K R a0 k71 I x2 x3 x5 (1 : Int32)
def f_X7_isApplicable_124 (F : Nat) (K : zK) (R : zR) (a0 : Nat) (k71 : zI → Int32 → Int32 → Int32 → Int32 → Option (Int32 × zI)) (I : zI) (x2 : Int32) (x3 : Int32) (x5 : Int32) (s0 : Int32) : Option (Int32 × zI) :=
  if s0 = (0 : Int32) then
    f_X7_isApplicable_141 F K R a0 k71 I x2 x3 x5
  else
    zbd (f_X7_widthOf F K I R a0 x2 x5) fun v2 =>
    if v2 ≤ (0 : Int32) then
      f_X7_isApplicable_146 F K R a0 k71 I x2 x3 x5 (0 : Int32)
    else
      f_X7_isApplicable_141 F K R a0 k71 I x2 x3 x5
def f_X7_isApplicable_123 (F : Nat) (K : zK) (R : zR) (a0 : Nat) (k71 : zI → Int32 → Int32 → Int32 → Int32 → Option (Int32 × zI)) (I : zI) (x2 : Int32) (x3 : Int32) (x5 : Int32) : Option (Int32 × zI) :=
  f_X7_isApplicable_124 F K R a0 k71 I x2 x3 x5 (0 : Int32)
def g_X7_isApplicable_71 (F : Nat) (K : zK) (R : zR) (a0 : Nat)  (kself : zI → Int32 → Int32 → Int32 → Int32 → Option (Int32 × zI)) (I : zI) (x2 : Int32) (x3 : Int32) (x4 : Int32) (x5 : Int32) : Option (Int32 × zI) :=
  zbd (some (R a0 0)) fun o5 =>
  zbd (zdr K o5 1) fun a6 =>
  zbd (zrd K I a6 x2) fun v9 =>
  if v9 ≤ x5 then
    if x4 = 0 ∨ x4 = 1 then
    some (x4, I)
    else
    none
  else
    if x4 = (0 : Int32) then
      if x4 = 0 ∨ x4 = 1 then
      some (x4, I)
      else
      none
    else
      zbd (f_X7_sort F K I R a0 x2 x5) fun v14 =>
      if v14 = (2 : Int32) then
        zbd (some (R a0 30)) fun o17 =>
        zbd (f_X7_number F K I R a0 x2 x5) fun v18 =>
        zbd (zdr K o17 1) fun a20 =>
        zbd (zrd K I a20 v18) fun v23 =>
        zbd (f_X7_sort F K I R a0 x3 v23) fun v24 =>
        if v24 = (2 : Int32) then
          f_X7_isApplicable_124 F K R a0 kself I x2 x3 x5 (1 : Int32)
        else
          f_X7_isApplicable_123 F K R a0 kself I x2 x3 x5
      else
        f_X7_isApplicable_123 F K R a0 kself I x2 x3 x5
def f_X7_isApplicable_71 (F : Nat) (K : zK) (R : zR) (a0 : Nat)  : Nat → zI → Int32 → Int32 → Int32 → Int32 → Option (Int32 × zI)
  | 0, _, _, _, _, _ => none
  | t + 1, I, x2, x3, x4, x5 => g_X7_isApplicable_71 F K R a0  (f_X7_isApplicable_71 F K R a0  t) I x2 x3 x4 x5
def f_X7_isApplicable_51 (F : Nat) (K : zK) (R : zR) (a0 : Nat) (k6 : zI → Int32 → Int32 → Int32 → Int32 → Int32 → Option (Int32 × zI)) (I : zI) (x1 : Int32) (x2 : Int32) (x3 : Int32) (x5 : Int32) (s0 : Int32) : Option (Int32 × zI) :=
  k6 I x1 x2 x3 s0 (x5 + (1 : Int32))
def f_X7_isApplicable_50 (F : Nat) (K : zK) (R : zR) (a0 : Nat) (k6 : zI → Int32 → Int32 → Int32 → Int32 → Int32 → Option (Int32 × zI)) (I : zI) (x1 : Int32) (x2 : Int32) (x3 : Int32) (x5 : Int32) : Option (Int32 × zI) :=
  f_X7_isApplicable_51 F K R a0 k6 I x1 x2 x3 x5 (0 : Int32)
def f_X7_isApplicable_46 (F : Nat) (K : zK) (R : zR) (a0 : Nat) (k6 : zI → Int32 → Int32 → Int32 → Int32 → Int32 → Option (Int32 × zI)) (I : zI) (x1 : Int32) (x2 : Int32) (x3 : Int32) (x5 : Int32) : Option (Int32 × zI) :=
  f_X7_isApplicable_51 F K R a0 k6 I x1 x2 x3 x5 (1 : Int32)
def g_X7_isApplicable_6 (F : Nat) (K : zK) (R : zR) (a0 : Nat)  (kself : zI → Int32 → Int32 → Int32 → Int32 → Int32 → Option (Int32 × zI)) (I : zI) (x1 : Int32) (x2 : Int32) (x3 : Int32) (x4 : Int32) (x5 : Int32) : Option (Int32 × zI) :=
  if (10 : Int32) ≤ x5 then
    zbd (some (R a0 5)) fun o28 =>
    zbd (f_X7_counts F K I R a0 x2 o28) fun I29 =>
    f_X7_isApplicable_71 F K R a0 F I29 x2 x3 x4 (0 : Int32)
  else
    zbd (f_X7_sortOf F K I R a0 x2 x5) fun v31 =>
    if x4 = (0 : Int32) then
      f_X7_isApplicable_50 F K R a0 kself I x1 x2 x3 x5
    else
      if v31 = (-9 : Int32) then
        f_X7_isApplicable_46 F K R a0 kself I x1 x2 x3 x5
      else
        zbd (f_X7_sortOf F K I R a0 x1 x5) fun v35 =>
        if v31 = v35 then
          f_X7_isApplicable_46 F K R a0 kself I x1 x2 x3 x5
        else
          f_X7_isApplicable_50 F K R a0 kself I x1 x2 x3 x5
def f_X7_isApplicable_6 (F : Nat) (K : zK) (R : zR) (a0 : Nat)  : Nat → zI → Int32 → Int32 → Int32 → Int32 → Int32 → Option (Int32 × zI)
  | 0, _, _, _, _, _, _ => none
  | t + 1, I, x1, x2, x3, x4, x5 => g_X7_isApplicable_6 F K R a0  (f_X7_isApplicable_6 F K R a0  t) I x1 x2 x3 x4 x5
def f_X7_isApplicable (F : Nat) (K : zK) (I : zI) (R : zR) (a0 : Nat) (x1 : Int32) (x2 : Int32) (x3 : Int32) : Option (Int32 × zI) :=
  f_X7_isApplicable_6 F K R a0 F I x1 x2 x3 (1 : Int32) (0 : Int32)
/-! LeastPatternsModel.builds(III)Z -/
def f_X7_builds_300 (F : Nat) (K : zK) (R : zR) (a0 : Nat) (k271 : zI → Int32 → Int32 → Int32 → Option (Int32 × zI)) (I : zI) (x4 : Int32) (x6 : Int32) (s0 : Int32) : Option (Int32 × zI) :=
  k271 I x4 s0 (x6 + (1 : Int32))
def f_X7_builds_299 (F : Nat) (K : zK) (R : zR) (a0 : Nat) (k271 : zI → Int32 → Int32 → Int32 → Option (Int32 × zI)) (I : zI) (x4 : Int32) (x6 : Int32) : Option (Int32 × zI) :=
  f_X7_builds_300 F K R a0 k271 I x4 x6 (0 : Int32)
def g_X7_builds_271 (F : Nat) (K : zK) (R : zR) (a0 : Nat)  (kself : zI → Int32 → Int32 → Int32 → Option (Int32 × zI)) (I : zI) (x4 : Int32) (x5 : Int32) (x6 : Int32) : Option (Int32 × zI) :=
  if x4 ≤ x6 then
    if x5 = 0 ∨ x5 = 1 then
    some (x5, I)
    else
    none
  else
    if x5 = (0 : Int32) then
      f_X7_builds_299 F K R a0 kself I x4 x6
    else
      zbd (some (R a0 7)) fun o4 =>
      zbd (zdr K o4 1) fun a5 =>
      zbd (zrd K I a5 x6) fun v8 =>
      if (7 : Int32) < v8 then
        f_X7_builds_299 F K R a0 kself I x4 x6
      else
        f_X7_builds_300 F K R a0 kself I x4 x6 (1 : Int32)
def f_X7_builds_271 (F : Nat) (K : zK) (R : zR) (a0 : Nat)  : Nat → zI → Int32 → Int32 → Int32 → Option (Int32 × zI)
  | 0, _, _, _, _ => none
  | t + 1, I, x4, x5, x6 => g_X7_builds_271 F K R a0  (f_X7_builds_271 F K R a0  t) I x4 x5 x6
def f_X7_builds_237 (F : Nat) (K : zK) (R : zR) (a0 : Nat) (k15 : zI → Int32 → Int32 → Int32 → Int32 → Int32 → Option (Int32 × zI)) (k113 : zI → Int32 → Int32 → Int32 → Int32 → Int32 → Int32 → Int32 → Int32 → Int32 → Int32 → Option (Int32 × zI)) (I : zI) (x1 : Int32) (x2 : Int32) (x3 : Int32) (x4 : Int32) (x5 : Int32) (x6 : Int32) (x7 : Int32) (x8 : Int32) (x9 : Int32) (x10 : Int32) : Option (Int32 × zI) :=
  k113 I x1 x2 x3 (x4 + (1 : Int32)) x5 x6 x7 x8 x9 (x10 + (1 : Int32))
def f_X7_builds_227 (F : Nat) (K : zK) (R : zR) (a0 : Nat) (k15 : zI → Int32 → Int32 → Int32 → Int32 → Int32 → Option (Int32 × zI)) (k113 : zI → Int32 → Int32 → Int32 → Int32 → Int32 → Int32 → Int32 → Int32 → Int32 → Int32 → Option (Int32 × zI)) (I : zI) (x1 : Int32) (x2 : Int32) (x3 : Int32) (x4 : Int32) (x5 : Int32) (x6 : Int32) (x7 : Int32) (x8 : Int32) (x9 : Int32) (x10 : Int32) (s0 : Option Nat) (s1 : Int32) (s2 : Int32) (s3 : Int32) (s4 : Int32) : Option (Int32 × zI) :=
  zbd (f_X7_widthOf F K I R a0 x1 x5) fun v10 =>
  zbd (zdr K s0 17) fun a12 =>
  zbd (f_X7_writes F K I R a12 s1 s2 s3 s4 v10) fun I15 =>
  f_X7_builds_237 F K R a0 k15 k113 I15 x1 x2 x3 x4 x5 x6 x7 x8 x9 x10
def f_X7_builds_205 (F : Nat) (K : zK) (R : zR) (a0 : Nat) (k15 : zI → Int32 → Int32 → Int32 → Int32 → Int32 → Option (Int32 × zI)) (k113 : zI → Int32 → Int32 → Int32 → Int32 → Int32 → Int32 → Int32 → Int32 → Int32 → Int32 → Option (Int32 × zI)) (I : zI) (x1 : Int32) (x2 : Int32) (x3 : Int32) (x4 : Int32) (x5 : Int32) (x6 : Int32) (x7 : Int32) (x8 : Int32) (x9 : Int32) (x10 : Int32) (s0 : Option Nat) (s1 : Int32) (s2 : Int32) (s3 : Int32) : Option (Int32 × zI) :=
  if x6 = (0 : Int32) then
    f_X7_builds_227 F K R a0 k15 k113 I x1 x2 x3 x4 x5 x6 x7 x8 x9 x10 s0 s1 s2 s3 x7
  else
    zbd (some (R a0 30)) fun o18 =>
    zbd (zdr K o18 1) fun a19 =>
    zbd (zrd K I a19 x7) fun v22 =>
    zbd (f_X7_number F K I R a0 x2 v22) fun v23 =>
    f_X7_builds_227 F K R a0 k15 k113 I x1 x2 x3 x4 x5 x6 x7 x8 x9 x10 s0 s1 s2 s3 v23
def g_X7_builds_113 (F : Nat) (K : zK) (R : zR) (a0 : Nat) (k15 : zI → Int32 → Int32 → Int32 → Int32 → Int32 → Option (Int32 × zI)) (kself : zI → Int32 → Int32 → Int32 → Int32 → Int32 → Int32 → Int32 → Int32 → Int32 → Int32 → Option (Int32 × zI)) (I : zI) (x1 : Int32) (x2 : Int32) (x3 : Int32) (x4 : Int32) (x5 : Int32) (x6 : Int32) (x7 : Int32) (x8 : Int32) (x9 : Int32) (x10 : Int32) : Option (Int32 × zI) :=
  if x9 ≤ x10 then
    k15 I x1 x2 x3 x4 (x5 + (1 : Int32))
  else
    if x8 = (0 : Int32) then
      if x6 = (0 : Int32) then
        f_X7_builds_205 F K R a0 k15 kself I x1 x2 x3 x4 x5 x6 x7 x8 x9 x10 (some a0) x3 x4 (0 : Int32)
      else
        zbd (some (R a0 30)) fun o28 =>
        zbd (zdr K o28 1) fun a29 =>
        zbd (zrd K I a29 x7) fun v32 =>
        zbd (f_X7_sort F K I R a0 x2 v32) fun v33 =>
        f_X7_builds_205 F K R a0 k15 kself I x1 x2 x3 x4 x5 x6 x7 x8 x9 x10 (some a0) x3 x4 v33
    else
      zbd (some (R a0 30)) fun o35 =>
      zbd (zdr K o35 1) fun a36 =>
      zbd (zrd K I a36 x7) fun v39 =>
      zbd (f_X7_sort F K I R a0 x2 (v39 + x10)) fun v40 =>
      zbd (some (R a0 30)) fun o42 =>
      zbd (zdr K o42 1) fun a43 =>
      zbd (zrd K I a43 x7) fun v46 =>
      zbd (f_X7_number F K I R a0 x2 (v46 + x10)) fun v47 =>
      zbd (some (R a0 30)) fun o49 =>
      zbd (zdr K o49 1) fun a50 =>
      zbd (zrd K I a50 x7) fun v53 =>
      zbd (f_X7_arguments F K I R a0 x2 (v53 + x10)) fun v54 =>
      zbd (f_X7_writes F K I R a0 x3 x4 v40 v47 v54) fun I56 =>
      f_X7_builds_237 F K R a0 k15 kself I56 x1 x2 x3 x4 x5 x6 x7 x8 x9 x10
def f_X7_builds_113 (F : Nat) (K : zK) (R : zR) (a0 : Nat) (k15 : zI → Int32 → Int32 → Int32 → Int32 → Int32 → Option (Int32 × zI)) : Nat → zI → Int32 → Int32 → Int32 → Int32 → Int32 → Int32 → Int32 → Int32 → Int32 → Int32 → Option (Int32 × zI)
  | 0, _, _, _, _, _, _, _, _, _, _, _ => none
  | t + 1, I, x1, x2, x3, x4, x5, x6, x7, x8, x9, x10 => g_X7_builds_113 F K R a0 k15 (f_X7_builds_113 F K R a0 k15 t) I x1 x2 x3 x4 x5 x6 x7 x8 x9 x10
def f_X7_builds_110 (F : Nat) (K : zK) (R : zR) (a0 : Nat) (k15 : zI → Int32 → Int32 → Int32 → Int32 → Int32 → Option (Int32 × zI)) (I : zI) (x1 : Int32) (x2 : Int32) (x3 : Int32) (x4 : Int32) (x5 : Int32) (x6 : Int32) (x7 : Int32) (x8 : Int32) (x9 : Int32) : Option (Int32 × zI) :=
  f_X7_builds_113 F K R a0 k15 F I x1 x2 x3 x4 x5 x6 x7 x8 x9 (0 : Int32)
def f_X7_builds_79 (F : Nat) (K : zK) (R : zR) (a0 : Nat) (k15 : zI → Int32 → Int32 → Int32 → Int32 → Int32 → Option (Int32 × zI)) (I : zI) (x1 : Int32) (x2 : Int32) (x3 : Int32) (x4 : Int32) (x5 : Int32) (x6 : Int32) (x7 : Int32) (x8 : Int32) (s0 : Int32) : Option (Int32 × zI) :=
  if (32 : Int32) < (x4 + s0) then
    some ((0 : Int32), I)
  else
    if x8 = (0 : Int32) then
      zbd (f_X7_widthOf F K I R a0 x1 x5) fun v60 =>
      if v60 ≤ (8 : Int32) then
        f_X7_builds_110 F K R a0 k15 I x1 x2 x3 x4 x5 x6 x7 x8 s0
      else
        some ((0 : Int32), I)
    else
      f_X7_builds_110 F K R a0 k15 I x1 x2 x3 x4 x5 x6 x7 x8 s0
def f_X7_builds_61 (F : Nat) (K : zK) (R : zR) (a0 : Nat) (k15 : zI → Int32 → Int32 → Int32 → Int32 → Int32 → Option (Int32 × zI)) (I : zI) (x1 : Int32) (x2 : Int32) (x3 : Int32) (x4 : Int32) (x5 : Int32) (x6 : Int32) (x7 : Int32) (s0 : Int32) : Option (Int32 × zI) :=
  if s0 = (0 : Int32) then
    f_X7_builds_79 F K R a0 k15 I x1 x2 x3 x4 x5 x6 x7 s0 (1 : Int32)
  else
    zbd (some (R a0 31)) fun o64 =>
    zbd (zdr K o64 1) fun a65 =>
    zbd (zrd K I a65 x7) fun v68 =>
    f_X7_builds_79 F K R a0 k15 I x1 x2 x3 x4 x5 x6 x7 s0 v68
def f_X7_builds_56 (F : Nat) (K : zK) (R : zR) (a0 : Nat) (k15 : zI → Int32 → Int32 → Int32 → Int32 → Int32 → Option (Int32 × zI)) (I : zI) (x1 : Int32) (x2 : Int32) (x3 : Int32) (x4 : Int32) (x5 : Int32) (x6 : Int32) (x7 : Int32) : Option (Int32 × zI) :=
  f_X7_builds_61 F K R a0 k15 I x1 x2 x3 x4 x5 x6 x7 (1 : Int32)
def g_X7_builds_15 (F : Nat) (K : zK) (R : zR) (a0 : Nat)  (kself : zI → Int32 → Int32 → Int32 → Int32 → Int32 → Option (Int32 × zI)) (I : zI) (x1 : Int32) (x2 : Int32) (x3 : Int32) (x4 : Int32) (x5 : Int32) : Option (Int32 × zI) :=
  zbd (some (R a0 0)) fun o69 =>
  zbd (zdr K o69 1) fun a70 =>
  zbd (zrd K I a70 x1) fun v73 =>
  if v73 ≤ x5 then
    zbd (some (R a0 0)) fun o75 =>
    zbd (zdr K o75 1) fun a76 =>
    zbd (zwr K I a76 x3 x4) fun I79 =>
    zbd (f_X7_levels F K I79 R a0 x3) fun I80 =>
    f_X7_builds_271 F K R a0 F I80 x4 (1 : Int32) (0 : Int32)
  else
    zbd (f_X7_sort F K I R a0 x1 x5) fun v82 =>
    zbd (f_X7_number F K I R a0 x1 x5) fun v84 =>
    if v82 = (1 : Int32) then
      f_X7_builds_56 F K R a0 kself I x1 x2 x3 x4 x5 v82 v84
    else
      if v82 = (3 : Int32) then
        f_X7_builds_56 F K R a0 kself I x1 x2 x3 x4 x5 v82 v84
      else
        f_X7_builds_61 F K R a0 kself I x1 x2 x3 x4 x5 v82 v84 (0 : Int32)
def f_X7_builds_15 (F : Nat) (K : zK) (R : zR) (a0 : Nat)  : Nat → zI → Int32 → Int32 → Int32 → Int32 → Int32 → Option (Int32 × zI)
  | 0, _, _, _, _, _, _ => none
  | t + 1, I, x1, x2, x3, x4, x5 => g_X7_builds_15 F K R a0  (f_X7_builds_15 F K R a0  t) I x1 x2 x3 x4 x5
def f_X7_builds (F : Nat) (K : zK) (I : zI) (R : zR) (a0 : Nat) (x1 : Int32) (x2 : Int32) (x3 : Int32) : Option (Int32 × zI) :=
  zbd (some (R a0 5)) fun o88 =>
  zbd (f_X7_counts F K I R a0 x1 o88) fun I89 =>
  f_X7_builds_15 F K R a0 F I89 x1 x2 x3 (0 : Int32) (0 : Int32)
/-! LeastPatternsModel.apply(IIII)I -/
def f_X7_apply_48 (F : Nat) (K : zK) (R : zR) (a0 : Nat)  (I : zI) (x1 : Int32) (x2 : Int32) (x3 : Int32) (x4 : Int32) (s0 : Int32) : Option (Int32 × zI) :=
  if s0 = (0 : Int32) then
    zbd2 (f_X7_matches F K I R a0 ((97 : Int32) * x1) ((97 : Int32) * x3)) fun v2 I3 =>
    if v2 = (0 : Int32) then
      some ((-2 : Int32), I3)
    else
      zbd2 (f_X7_isApplicable F K I3 R a0 ((97 : Int32) * x1) ((97 : Int32) * x2) ((97 : Int32) * x3)) fun v6 I7 =>
      if v6 = (0 : Int32) then
        some ((-2 : Int32), I7)
      else
        zbd2 (f_X7_builds F K I7 R a0 ((97 : Int32) * x2) ((97 : Int32) * x3) (5654 : Int32)) fun v10 I11 =>
        if v10 = (0 : Int32) then
          some ((-3 : Int32), I11)
        else
          zbd (f_X7_records F K I11 R a0) fun I14 =>
          zbd2 (f_X7_puts F K I14 R a0 (5654 : Int32) x4) fun v16 I17 =>
          some (v16, I17)
  else
    some (s0, I)
def f_X7_apply_46 (F : Nat) (K : zK) (R : zR) (a0 : Nat)  (I : zI) (x1 : Int32) (x2 : Int32) (x3 : Int32) (x4 : Int32) (x5 : Int32) : Option (Int32 × zI) :=
  f_X7_apply_48 F K R a0 I x1 x2 x3 x4 x5
def f_X7_apply_23 (F : Nat) (K : zK) (R : zR) (a0 : Nat)  (I : zI) (x1 : Int32) (x2 : Int32) (x3 : Int32) (x4 : Int32) (s0 : Option Nat) (s1 : Int32) (s2 : Int32) (s3 : Int32) : Option (Int32 × zI) :=
  zbd (zdr K s0 17) fun a19 =>
  zbd (f_X7_wrong F K I R a19 s1 s2 s3) fun v22 =>
  if v22 = (0 : Int32) then
    zbd (f_X7_isEmpty F K I R a0 x3) fun v25 =>
    if v25 = (0 : Int32) then
      f_X7_apply_46 F K R a0 I x1 x2 x3 x4 v22
    else
      f_X7_apply_48 F K R a0 I x1 x2 x3 x4 (-2 : Int32)
  else
    f_X7_apply_46 F K R a0 I x1 x2 x3 x4 v22
def f_X7_apply_22 (F : Nat) (K : zK) (R : zR) (a0 : Nat)  (I : zI) (x1 : Int32) (x2 : Int32) (x3 : Int32) (x4 : Int32) (s0 : Option Nat) (s1 : Int32) (s2 : Int32) : Option (Int32 × zI) :=
  f_X7_apply_23 F K R a0 I x1 x2 x3 x4 s0 s1 s2 (0 : Int32)
def f_X7_apply (F : Nat) (K : zK) (I : zI) (R : zR) (a0 : Nat) (x1 : Int32) (x2 : Int32) (x3 : Int32) (x4 : Int32) : Option (Int32 × zI) :=
  zbd (f_X7_isRegister F K I R x3) fun v28 =>
  if v28 = (0 : Int32) then
    f_X7_apply_22 F K R a0 I x1 x2 x3 x4 (some a0) x1 x2
  else
    zbd (f_X7_isRegister F K I R x4) fun v31 =>
    if v31 = (0 : Int32) then
      f_X7_apply_22 F K R a0 I x1 x2 x3 x4 (some a0) x1 x2
    else
      f_X7_apply_23 F K R a0 I x1 x2 x3 x4 (some a0) x1 x2 (1 : Int32)
/-! LeastPatternsModel.sumOf(Z)I -/
def f_X7_sumOf_40 (F : Nat) (K : zK) (I : zI) (R : zR) (a0 : Nat) (k4 : Int32 → Int32 → Int32 → Option (Int32)) (x1 : Int32) (x3 : Int32) (s0 : Int32) (s1 : Int32) : Option (Int32) :=
  zbd (some (s0 + s1)) fun v1 =>
  k4 x1 v1 (x3 + (1 : Int32))
def g_X7_sumOf_4 (F : Nat) (K : zK) (I : zI) (R : zR) (a0 : Nat)  (kself : Int32 → Int32 → Int32 → Option (Int32)) (x1 : Int32) (x2 : Int32) (x3 : Int32) : Option (Int32) :=
  if (8 : Int32) ≤ x3 then
    some x2
  else
    if x1 = (0 : Int32) then
      zbd (f_X7_isEmpty F K I R a0 x3) fun v4 =>
      if v4 = (0 : Int32) then
        f_X7_sumOf_40 F K I R a0 kself x1 x3 x2 (1 : Int32)
      else
        f_X7_sumOf_40 F K I R a0 kself x1 x3 x2 (0 : Int32)
    else
      zbd (some (R a0 0)) fun o7 =>
      zbd (zdr K o7 1) fun a8 =>
      zbd (zrd K I a8 ((97 : Int32) * x3)) fun v11 =>
      f_X7_sumOf_40 F K I R a0 kself x1 x3 x2 v11
def f_X7_sumOf_4 (F : Nat) (K : zK) (I : zI) (R : zR) (a0 : Nat)  : Nat → Int32 → Int32 → Int32 → Option (Int32)
  | 0, _, _, _ => none
  | t + 1, x1, x2, x3 => g_X7_sumOf_4 F K I R a0  (f_X7_sumOf_4 F K I R a0  t) x1 x2 x3
def f_X7_sumOf (F : Nat) (K : zK) (I : zI) (R : zR) (a0 : Nat) (x1 : Int32) : Option (Int32) :=
  f_X7_sumOf_4 F K I R a0 F x1 (0 : Int32) (0 : Int32)
/-! LeastPatternsModel.told(I)I -/
def f_X7_told_48 (F : Nat) (K : zK) (I : zI) (R : zR) (a0 : Nat)  (x1 : Int32) : Option (Int32) :=
  zbd (some (R a0 0)) fun o1 =>
  zbd (zdr K o1 1) fun a2 =>
  zbd (zrd K I a2 ((776 : Int32) + x1)) fun v5 =>
  some v5
def f_X7_told (F : Nat) (K : zK) (I : zI) (R : zR) (a0 : Nat) (x1 : Int32) : Option (Int32) :=
  if x1 = 0 then
    f_X7_told_48 F K I R a0 x1
  else
  if x1 = 1 then
    f_X7_told_48 F K I R a0 x1
  else
  if x1 = 2 then
    f_X7_told_48 F K I R a0 x1
  else
  if x1 = 3 then
    f_X7_told_48 F K I R a0 x1
  else
  if x1 = 4 then
    zbd (f_X7_sumOf F K I R a0 (0 : Int32)) fun v10 =>
    some v10
  else
  if x1 = 5 then
    zbd (f_X7_sumOf F K I R a0 (1 : Int32)) fun v13 =>
    some v13
  else
  if x1 = 6 then
    some (I a0 3)
  else
  if x1 = 7 then
    some (I a0 1)
  else
    some (-1 : Int32)
/-! LeastPatternsModel.undo()I -/
def g_X7_undo_12 (F : Nat) (K : zK) (R : zR) (a0 : Nat)  (kself : zI → Int32 → Option (Int32 × zI)) (I : zI) (x1 : Int32) : Option (Int32 × zI) :=
  if (780 : Int32) ≤ x1 then
    zbd (some (zup I a0 1 ((I a0 1) - (1 : Int32)))) fun I2 =>
    some (I2 a0 1, I2)
  else
    zbd (some (R a0 0)) fun o3 =>
    zbd (some (R a0 0)) fun o4 =>
    zbd (zdr K o4 1) fun a5 =>
    zbd (zrd K I a5 (((780 : Int32) * (I a0 1)) + x1)) fun v8 =>
    zbd (zdr K o3 1) fun a9 =>
    zbd (zwr K I a9 x1 v8) fun I12 =>
    kself I12 (x1 + (1 : Int32))
def f_X7_undo_12 (F : Nat) (K : zK) (R : zR) (a0 : Nat)  : Nat → zI → Int32 → Option (Int32 × zI)
  | 0, _, _ => none
  | t + 1, I, x1 => g_X7_undo_12 F K R a0  (f_X7_undo_12 F K R a0  t) I x1
def f_X7_undo (F : Nat) (K : zK) (I : zI) (R : zR) (a0 : Nat)  : Option (Int32 × zI) :=
  if (I a0 1) = (0 : Int32) then
    some ((-2 : Int32), I)
  else
    f_X7_undo_12 F K R a0 F I (0 : Int32)
/-! LeastPatternsModel.mixedRegister(JI)J -/
def g_X7_mixedRegister_62 (F : Nat) (K : zK) (R : zR) (a0 : Nat) (k45 : zI → Int32 → Int64 → Int32 → Option (Int64 × zI)) (kself : zI → Int32 → Int64 → Int32 → Int32 → Option (Int64 × zI)) (I : zI) (x3 : Int32) (x4 : Int64) (x6 : Int32) (x7 : Int32) : Option (Int64 × zI) :=
  if (4 : Int32) < x7 then
    k45 I x3 x4 (x6 + (1 : Int32))
  else
    zbd2 (f_X7_nodeOf F K I R a0 x3 x6 x7) fun v2 I3 =>
    zbd (some (((31 : Int64) * x4) + (v2.toInt64))) fun v5 =>
    kself I3 x3 v5 x6 (x7 + (1 : Int32))
def f_X7_mixedRegister_62 (F : Nat) (K : zK) (R : zR) (a0 : Nat) (k45 : zI → Int32 → Int64 → Int32 → Option (Int64 × zI)) : Nat → zI → Int32 → Int64 → Int32 → Int32 → Option (Int64 × zI)
  | 0, _, _, _, _, _ => none
  | t + 1, I, x3, x4, x6, x7 => g_X7_mixedRegister_62 F K R a0 k45 (f_X7_mixedRegister_62 F K R a0 k45 t) I x3 x4 x6 x7
def g_X7_mixedRegister_45 (F : Nat) (K : zK) (R : zR) (a0 : Nat)  (kself : zI → Int32 → Int64 → Int32 → Option (Int64 × zI)) (I : zI) (x3 : Int32) (x4 : Int64) (x6 : Int32) : Option (Int64 × zI) :=
  zbd (some (R a0 0)) fun o6 =>
  zbd (zdr K o6 1) fun a7 =>
  zbd (zrd K I a7 ((97 : Int32) * x3)) fun v10 =>
  if v10 ≤ x6 then
    zbd2 (f_X7_coveredBy F K I R a0 x3) fun v12 I13 =>
    some (((31 : Int64) * x4) + (v12.toInt64), I13)
  else
    f_X7_mixedRegister_62 F K R a0 kself F I x3 x4 x6 (0 : Int32)
def f_X7_mixedRegister_45 (F : Nat) (K : zK) (R : zR) (a0 : Nat)  : Nat → zI → Int32 → Int64 → Int32 → Option (Int64 × zI)
  | 0, _, _, _, _ => none
  | t + 1, I, x3, x4, x6 => g_X7_mixedRegister_45 F K R a0  (f_X7_mixedRegister_45 F K R a0  t) I x3 x4 x6
def g_X7_mixedRegister_13 (F : Nat) (K : zK) (R : zR) (a0 : Nat)  (kself : zI → Int32 → Int64 → Int32 → Option (Int64 × zI)) (I : zI) (x3 : Int32) (x4 : Int64) (x6 : Int32) : Option (Int64 × zI) :=
  if (4 : Int32) < x6 then
    f_X7_mixedRegister_45 F K R a0 F I x3 x4 (0 : Int32)
  else
    zbd2 (f_X7_sizeOf F K I R a0 x3 x6) fun v16 I17 =>
    zbd (some (((31 : Int64) * x4) + (v16.toInt64))) fun v19 =>
    kself I17 x3 v19 (x6 + (1 : Int32))
def f_X7_mixedRegister_13 (F : Nat) (K : zK) (R : zR) (a0 : Nat)  : Nat → zI → Int32 → Int64 → Int32 → Option (Int64 × zI)
  | 0, _, _, _, _ => none
  | t + 1, I, x3, x4, x6 => g_X7_mixedRegister_13 F K R a0  (f_X7_mixedRegister_13 F K R a0  t) I x3 x4 x6
def f_X7_mixedRegister (F : Nat) (K : zK) (I : zI) (R : zR) (a0 : Nat) (x1 : Int64) (x3 : Int32) : Option (Int64 × zI) :=
  zbd (some (((31 : Int64) * x1) + (x3.toInt64))) fun v20 =>
  f_X7_mixedRegister_13 F K R a0 F I x3 v20 (0 : Int32)
/-! LeastPatternsModel.digest()J -/
def f_X7_digest_57 (F : Nat) (K : zK) (R : zR) (a0 : Nat) (k33 : zI → Int64 → Int32 → Option (Int64 × zI)) (I : zI) (x3 : Int32) (s0 : Int64) : Option (Int64 × zI) :=
  k33 I s0 (x3 + (1 : Int32))
def g_X7_digest_33 (F : Nat) (K : zK) (R : zR) (a0 : Nat)  (kself : zI → Int64 → Int32 → Option (Int64 × zI)) (I : zI) (x1 : Int64) (x3 : Int32) : Option (Int64 × zI) :=
  if (8 : Int32) ≤ x3 then
    some (((31 : Int64) * x1) + ((I a0 4).toInt64), I)
  else
    zbd (f_X7_isEmpty F K I R a0 x3) fun v2 =>
    if v2 = (0 : Int32) then
      zbd2 (f_X7_mixedRegister F K I R a0 x1 x3) fun v5 I6 =>
      f_X7_digest_57 F K R a0 kself I6 x3 v5
    else
      f_X7_digest_57 F K R a0 kself I x3 x1
def f_X7_digest_33 (F : Nat) (K : zK) (R : zR) (a0 : Nat)  : Nat → zI → Int64 → Int32 → Option (Int64 × zI)
  | 0, _, _, _ => none
  | t + 1, I, x1, x3 => g_X7_digest_33 F K R a0  (f_X7_digest_33 F K R a0  t) I x1 x3
def g_X7_digest_6 (F : Nat) (K : zK) (R : zR) (a0 : Nat)  (kself : zI → Int64 → Int32 → Option (Int64 × zI)) (I : zI) (x1 : Int64) (x3 : Int32) : Option (Int64 × zI) :=
  if (7 : Int32) < x3 then
    f_X7_digest_33 F K R a0 F I x1 (0 : Int32)
  else
    zbd (f_X7_told F K I R a0 x3) fun v9 =>
    zbd (some (((31 : Int64) * x1) + (v9.toInt64))) fun v11 =>
    kself I v11 (x3 + (1 : Int32))
def f_X7_digest_6 (F : Nat) (K : zK) (R : zR) (a0 : Nat)  : Nat → zI → Int64 → Int32 → Option (Int64 × zI)
  | 0, _, _, _ => none
  | t + 1, I, x1, x3 => g_X7_digest_6 F K R a0  (f_X7_digest_6 F K R a0  t) I x1 x3
def f_X7_digest (F : Nat) (K : zK) (I : zI) (R : zR) (a0 : Nat)  : Option (Int64 × zI) :=
  f_X7_digest_6 F K R a0 F I (17369 : Int64) (0 : Int32)
