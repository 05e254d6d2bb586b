/-! LeastPatternsModel.<init>()V -/
def f_X7_init (F : Nat) (n : Nat) (K : zK) (I : zI) (R : zR) (a0 : Nat)  : Option (Nat × zK × zI × zR) :=
  zbd3 (some (n + 1, zset K n (1, 5751), zclr I n 0)) fun n1 K2 I3 =>
  if (K2 a0).1 = 17 then
  zbd (some (zup R a0 0 (some n))) fun R5 =>
  zbd3 (some (n1 + 1, zset K2 n1 (1, 80), zclr I3 n1 0)) fun n6 K7 I8 =>
  if (K7 a0).1 = 17 then
  zbd (some (zup R5 a0 2 (some n1))) fun R10 =>
  zbd (some (zup I8 a0 4 (-9 : Int32))) fun I11 =>
  zbd3 (some (n6 + 1, zset K7 n6 (1, 32), zclr I11 n6 0)) fun n12 K13 I14 =>
  if (K13 a0).1 = 17 then
  zbd (some (zup R10 a0 5 (some n6))) fun R16 =>
  zbd3 (some (n12 + 1, zset K13 n12 (1, 32), zclr I14 n12 0)) fun n17 K18 I19 =>
  if (K18 a0).1 = 17 then
  zbd (some (zup R16 a0 6 (some n12))) fun R21 =>
  zbd3 (some (n17 + 1, zset K18 n17 (1, 32), zclr I19 n17 0)) fun n22 K23 I24 =>
  if (K23 a0).1 = 17 then
  zbd (some (zup R21 a0 7 (some n17))) fun R26 =>
  zbd3 (some (n22 + 1, zset K23 n22 (1, 32), zclr I24 n22 0)) fun n27 K28 I29 =>
  if (K28 a0).1 = 17 then
  zbd (some (zup R26 a0 8 (some n22))) fun R31 =>
  zbd3 (some (n27 + 1, zset K28 n27 (1, 10), zclr I29 n27 0)) fun n32 K33 I34 =>
  if (K33 a0).1 = 17 then
  zbd (some (zup R31 a0 9 (some n27))) fun R36 =>
  zbd3 (some (n32 + 1, zset K33 n32 (1, 9), zclr I34 n32 0)) fun n37 K38 I39 =>
  if (K38 a0).1 = 17 then
  zbd (some (zup R36 a0 10 (some n32))) fun R41 =>
  zbd3 (some (n37 + 1, zset K38 n37 (2, 9), zclr I39 n37 0)) fun n42 K43 I44 =>
  if (K43 a0).1 = 17 then
  zbd (some (zup R41 a0 11 (some n37))) fun R46 =>
  zbd3 (some (n42 + 1, zset K43 n42 (1, 8), zclr I44 n42 0)) fun n47 K48 I49 =>
  if (K48 a0).1 = 17 then
  zbd (some (zup R46 a0 15 (some n42))) fun R51 =>
  zbd3 (some (n47 + 1, zset K48 n47 (1, 10), zclr I49 n47 0)) fun n52 K53 I54 =>
  if (K53 a0).1 = 17 then
  zbd (some (zup R51 a0 17 (some n47))) fun R56 =>
  zbd3 (some (n52 + 1, zset K53 n52 (1, 10), zclr I54 n52 0)) fun n57 K58 I59 =>
  if (K58 a0).1 = 17 then
  zbd (some (zup R56 a0 18 (some n52))) fun R61 =>
  zbd3 (some (n57 + 1, zset K58 n57 (1, 10), zclr I59 n57 0)) fun n62 K63 I64 =>
  if (K63 a0).1 = 17 then
  zbd (some (zup R61 a0 19 (some n57))) fun R66 =>
  zbd3 (some (n62 + 1, zset K63 n62 (1, 10), zclr I64 n62 0)) fun n67 K68 I69 =>
  if (K68 a0).1 = 17 then
  zbd (some (zup R66 a0 20 (some n62))) fun R71 =>
  zbd3 (some (n67 + 1, zset K68 n67 (1, 10), zclr I69 n67 0)) fun n72 K73 I74 =>
  if (K73 a0).1 = 17 then
  zbd (some (zup R71 a0 21 (some n67))) fun R76 =>
  zbd3 (some (n72 + 1, zset K73 n72 (1, 10), zclr I74 n72 0)) fun n77 K78 I79 =>
  if (K78 a0).1 = 17 then
  zbd (some (zup R76 a0 22 (some n72))) fun R81 =>
  zbd3 (some (n77 + 1, zset K78 n77 (1, 10), zclr I79 n77 0)) fun n82 K83 I84 =>
  if (K83 a0).1 = 17 then
  zbd (some (zup R81 a0 23 (some n77))) fun R86 =>
  zbd3 (some (n82 + 1, zset K83 n82 (2, 160), zclr I84 n82 0)) fun n87 K88 I89 =>
  if (K88 a0).1 = 17 then
  zbd (some (zup R86 a0 24 (some n82))) fun R91 =>
  zbd3 (some (n87 + 1, zset K88 n87 (1, 160), zclr I89 n87 0)) fun n92 K93 I94 =>
  if (K93 a0).1 = 17 then
  zbd (some (zup R91 a0 25 (some n87))) fun R96 =>
  zbd3 (some (n92 + 1, zset K93 n92 (1, 160), zclr I94 n92 0)) fun n97 K98 I99 =>
  if (K98 a0).1 = 17 then
  zbd (some (zup R96 a0 26 (some n92))) fun R101 =>
  zbd3 (some (n97 + 1, zset K98 n97 (1, 160), zclr I99 n97 0)) fun n102 K103 I104 =>
  if (K103 a0).1 = 17 then
  zbd (some (zup R101 a0 27 (some n97))) fun R106 =>
  zbd3 (some (n102 + 1, zset K103 n102 (1, 160), zclr I104 n102 0)) fun n107 K108 I109 =>
  if (K108 a0).1 = 17 then
  zbd (some (zup R106 a0 28 (some n102))) fun R111 =>
  zbd3 (some (n107 + 1, zset K108 n107 (1, 10), zclr I109 n107 0)) fun n112 K113 I114 =>
  if (K113 a0).1 = 17 then
  zbd (some (zup R111 a0 30 (some n107))) fun R116 =>
  zbd3 (some (n112 + 1, zset K113 n112 (1, 10), zclr I114 n112 0)) fun n117 K118 I119 =>
  if (K118 a0).1 = 17 then
  zbd (some (zup R116 a0 31 (some n112))) fun R121 =>
  zbd3 (some (n117 + 1, zset K118 n117 (1, 10), zclr I119 n117 0)) fun n122 K123 I124 =>
  if (K123 a0).1 = 17 then
  zbd (some (zup R121 a0 32 (some n117))) fun R126 =>
  zbd3 (some (n122 + 1, zset K123 n122 (2, 100), zclr I124 n122 0)) fun n127 K128 I129 =>
  if (K128 a0).1 = 17 then
  zbd (some (zup R126 a0 33 (some n122))) fun R131 =>
  zbd3 (some (n127 + 1, zset K128 n127 (1, 10), zclr I129 n127 0)) fun n132 K133 I134 =>
  if (K133 a0).1 = 17 then
  zbd (some (zup R131 a0 34 (some n127))) fun R136 =>
  zbd3 (some (n132 + 1, zset K133 n132 (1, 10), zclr I134 n132 0)) fun n137 K138 I139 =>
  if (K138 a0).1 = 17 then
  zbd (some (zup R136 a0 35 (some n132))) fun R141 =>
  zbd3 (some (n137 + 1, zset K138 n137 (2, 10), zclr I139 n137 0)) fun n142 K143 I144 =>
  if (K143 a0).1 = 17 then
  zbd (some (zup R141 a0 36 (some n137))) fun R146 =>
  zbd3 (some (n142 + 1, zset K143 n142 (2, 10), zclr I144 n142 0)) fun n147 K148 I149 =>
  if (K148 a0).1 = 17 then
  zbd (some (zup R146 a0 37 (some n142))) fun R151 =>
  zbd3 (some (n147 + 1, zset K148 n147 (2, 10), zclr I149 n147 0)) fun n152 K153 I154 =>
  if (K153 a0).1 = 17 then
  zbd (some (zup R151 a0 38 (some n147))) fun R156 =>
  some (n152, K153, I154, R156)
  else none
  else none
  else none
  else none
  else none
  else none
  else none
  else none
  else none
  else none
  else none
  else none
  else none
  else none
  else none
  else none
  else none
  else none
  else none
  else none
  else none
  else none
  else none
  else none
  else none
  else none
  else none
  else none
  else none
  else none
  else none
section
variable {p : Program} {l : Launch} {e : Env} {s : State} {m : MethodId} {args : Array Value} {below : List Frame} {meth : Method} {c : Code} {D : zD} {B n n0 n' fd ld : Nat} {K K0 K' : zK} {I I' : zI} {R R' : zR} {H : Heap} {locs : List Loc} {ls : Array Slot} {r : Int32}
set_option maxRecDepth 100000 in
set_option maxHeartbeats 4000000 in
theorem c_X7_init (l : Launch) (D : zD) (B n : Nat) {F : Nat} {K : zK} {I : zI} {R : zR} {a0 : Nat}  {n' : Nat} {K' : zK} {I' : zI} {R' : zR} (hf : f_X7_init F n K I R a0  = some (n', K', I', R')) : zM l yX7_init cX7_init 1 (none) ({ frames := 1, cells := 31, slots := 7045, locals := 40 } : Room) D B n K I R [.ref (B + a0)] (zQv D (zOwn B K (B + n)) B n' K' I' R') := by
  refine ze_entry (lv0 := [(0, .ref (B + a0))]) (by decide) (by simp [lg_sl, zcat, zcat_i, zcat_r, zcat_l]) (by simp [lv_args, zcat, zcat_i, zcat_r, zcat_l]) (fun p e s m below meth c X hr hlk hin hW ls hl => ?_)
  unfold f_X7_init at hf
  have b1 : (0 : Nat) ≤ 0 := Nat.le_refl _
  refine lv_aload_n X.1 X.2.1 dX7_init_0 rfl (lv_at hl 0 rfl) ?_
  refine ze_obj X hl.1 kml_X7_1 kobj1 kobj2 (by decide) (by decide) dX7_init_1 ?_
  refine lv_aload_n X.1 X.2.1 dX7_init_4 rfl (lv_at hl 0 rfl) ?_
  refine lv_sipush (v := 5751) X.1 X.2.1 dX7_init_5 (by decide) ?_
  refine ze_nwI (N := 5751) X hf kar_int (by decide) (by decide) (by decide) hW (by show _ ≤ (31 : Nat); (try dsimp only); omega) (by show _ ≤ (7045 : Nat); (try dsimp only); omega) dX7_init_8 (fun n1 K2 I3 H hg hV => ?_)
  replace hf := hg
  replace hW := hV
  obtain ⟨k4, hg⟩ := zh_if hf
  replace hf := hg
  refine ze_putRF (ty := .array .int) (x := (some n)) X hin 7 0 7 (RX7, TX7, 39) rfl (Or.inr ⟨_, rfl⟩) hf hW k4 rfl (by decide) kfl_X7_7 rfl rfl (by decide +kernel) dX7_init_10 (fun R5 H locs hg hV => ?_)
  replace hf := hg
  replace hW := hV
  refine lv_aload_n X.1 X.2.1 dX7_init_13 rfl (lv_at hl 0 rfl) ?_
  refine lv_bipush (v := 80) X.1 X.2.1 dX7_init_14 (by decide) ?_
  refine ze_nwI (N := 80) X hf kar_int (by decide) (by decide) (by decide) hW (by show _ ≤ (31 : Nat); (try dsimp only); omega) (by show _ ≤ (7045 : Nat); (try dsimp only); omega) dX7_init_16 (fun n6 K7 I8 H hg hV => ?_)
  replace hf := hg
  replace hW := hV
  obtain ⟨k9, hg⟩ := zh_if hf
  replace hf := hg
  refine ze_putRF (ty := .array .int) (x := (some n1)) X hin 7 2 13 (RX7, TX7, 39) rfl (Or.inr ⟨_, rfl⟩) hf hW k9 rfl (by decide) kfl_X7_13 rfl rfl (by decide +kernel) dX7_init_18 (fun R10 H locs hg hV => ?_)
  replace hf := hg
  replace hW := hV
  refine lv_aload_n X.1 X.2.1 dX7_init_21 rfl (lv_at hl 0 rfl) ?_
  refine lv_bipush (v := -9) X.1 X.2.1 dX7_init_22 (by decide) ?_
  refine ze_putI X 7 4 16 (RX7, TX7, 39) rfl hf hW k9 rfl (by decide) kfl_X7_16 rfl (by decide +kernel) dX7_init_24 (fun I11 H locs hg hV => ?_)
  replace hf := hg
  replace hW := hV
  refine lv_aload_n X.1 X.2.1 dX7_init_27 rfl (lv_at hl 0 rfl) ?_
  refine lv_bipush (v := 32) X.1 X.2.1 dX7_init_28 (by decide) ?_
  refine ze_nwI (N := 32) X hf kar_int (by decide) (by decide) (by decide) hW (by show _ ≤ (31 : Nat); (try dsimp only); omega) (by show _ ≤ (7045 : Nat); (try dsimp only); omega) dX7_init_30 (fun n12 K13 I14 H hg hV => ?_)
  replace hf := hg
  replace hW := hV
  obtain ⟨k15, hg⟩ := zh_if hf
  replace hf := hg
  refine ze_putRF (ty := .array .int) (x := (some n6)) X hin 7 5 20 (RX7, TX7, 39) rfl (Or.inr ⟨_, rfl⟩) hf hW k15 rfl (by decide) kfl_X7_20 rfl rfl (by decide +kernel) dX7_init_32 (fun R16 H locs hg hV => ?_)
  replace hf := hg
  replace hW := hV
  refine lv_aload_n X.1 X.2.1 dX7_init_35 rfl (lv_at hl 0 rfl) ?_
  refine lv_bipush (v := 32) X.1 X.2.1 dX7_init_36 (by decide) ?_
  refine ze_nwI (N := 32) X hf kar_int (by decide) (by decide) (by decide) hW (by show _ ≤ (31 : Nat); (try dsimp only); omega) (by show _ ≤ (7045 : Nat); (try dsimp only); omega) dX7_init_38 (fun n17 K18 I19 H hg hV => ?_)
  replace hf := hg
  replace hW := hV
  obtain ⟨k20, hg⟩ := zh_if hf
  replace hf := hg
  refine ze_putRF (ty := .array .int) (x := (some n12)) X hin 7 6 23 (RX7, TX7, 39) rfl (Or.inr ⟨_, rfl⟩) hf hW k20 rfl (by decide) kfl_X7_23 rfl rfl (by decide +kernel) dX7_init_40 (fun R21 H locs hg hV => ?_)
  replace hf := hg
  replace hW := hV
  refine lv_aload_n X.1 X.2.1 dX7_init_43 rfl (lv_at hl 0 rfl) ?_
  refine lv_bipush (v := 32) X.1 X.2.1 dX7_init_44 (by decide) ?_
  refine ze_nwI (N := 32) X hf kar_int (by decide) (by decide) (by decide) hW (by show _ ≤ (31 : Nat); (try dsimp only); omega) (by show _ ≤ (7045 : Nat); (try dsimp only); omega) dX7_init_46 (fun n22 K23 I24 H hg hV => ?_)
  replace hf := hg
  replace hW := hV
  obtain ⟨k25, hg⟩ := zh_if hf
  replace hf := hg
  refine ze_putRF (ty := .array .int) (x := (some n17)) X hin 7 7 26 (RX7, TX7, 39) rfl (Or.inr ⟨_, rfl⟩) hf hW k25 rfl (by decide) kfl_X7_26 rfl rfl (by decide +kernel) dX7_init_48 (fun R26 H locs hg hV => ?_)
  replace hf := hg
  replace hW := hV
  refine lv_aload_n X.1 X.2.1 dX7_init_51 rfl (lv_at hl 0 rfl) ?_
  refine lv_bipush (v := 32) X.1 X.2.1 dX7_init_52 (by decide) ?_
  refine ze_nwI (N := 32) X hf kar_int (by decide) (by decide) (by decide) hW (by show _ ≤ (31 : Nat); (try dsimp only); omega) (by show _ ≤ (7045 : Nat); (try dsimp only); omega) dX7_init_54 (fun n27 K28 I29 H hg hV => ?_)
  replace hf := hg
  replace hW := hV
  obtain ⟨k30, hg⟩ := zh_if hf
  replace hf := hg
  refine ze_putRF (ty := .array .int) (x := (some n22)) X hin 7 8 29 (RX7, TX7, 39) rfl (Or.inr ⟨_, rfl⟩) hf hW k30 rfl (by decide) kfl_X7_29 rfl rfl (by decide +kernel) dX7_init_56 (fun R31 H locs hg hV => ?_)
  replace hf := hg
  replace hW := hV
  refine lv_aload_n X.1 X.2.1 dX7_init_59 rfl (lv_at hl 0 rfl) ?_
  refine lv_bipush (v := 10) X.1 X.2.1 dX7_init_60 (by decide) ?_
  refine ze_nwI (N := 10) X hf kar_int (by decide) (by decide) (by decide) hW (by show _ ≤ (31 : Nat); (try dsimp only); omega) (by show _ ≤ (7045 : Nat); (try dsimp only); omega) dX7_init_62 (fun n32 K33 I34 H hg hV => ?_)
  replace hf := hg
  replace hW := hV
  obtain ⟨k35, hg⟩ := zh_if hf
  replace hf := hg
  refine ze_putRF (ty := .array .int) (x := (some n27)) X hin 7 9 32 (RX7, TX7, 39) rfl (Or.inr ⟨_, rfl⟩) hf hW k35 rfl (by decide) kfl_X7_32 rfl rfl (by decide +kernel) dX7_init_64 (fun R36 H locs hg hV => ?_)
  replace hf := hg
  replace hW := hV
  refine lv_aload_n X.1 X.2.1 dX7_init_67 rfl (lv_at hl 0 rfl) ?_
  refine lv_bipush (v := 9) X.1 X.2.1 dX7_init_68 (by decide) ?_
  refine ze_nwI (N := 9) X hf kar_int (by decide) (by decide) (by decide) hW (by show _ ≤ (31 : Nat); (try dsimp only); omega) (by show _ ≤ (7045 : Nat); (try dsimp only); omega) dX7_init_70 (fun n37 K38 I39 H hg hV => ?_)
  replace hf := hg
  replace hW := hV
  obtain ⟨k40, hg⟩ := zh_if hf
  replace hf := hg
  refine ze_putRF (ty := .array .int) (x := (some n32)) X hin 7 10 35 (RX7, TX7, 39) rfl (Or.inr ⟨_, rfl⟩) hf hW k40 rfl (by decide) kfl_X7_35 rfl rfl (by decide +kernel) dX7_init_72 (fun R41 H locs hg hV => ?_)
  replace hf := hg
  replace hW := hV
  refine lv_aload_n X.1 X.2.1 dX7_init_75 rfl (lv_at hl 0 rfl) ?_
  refine lv_bipush (v := 9) X.1 X.2.1 dX7_init_76 (by decide) ?_
  refine ze_nwZ (N := 9) X hf kar_boolean (by decide) (by decide) (by decide) hW (by show _ ≤ (31 : Nat); (try dsimp only); omega) (by show _ ≤ (7045 : Nat); (try dsimp only); omega) dX7_init_78 (fun n42 K43 I44 H hg hV => ?_)
  replace hf := hg
  replace hW := hV
  obtain ⟨k45, hg⟩ := zh_if hf
  replace hf := hg
  refine ze_putRF (ty := .array .boolean) (x := (some n37)) X hin 7 11 38 (RX7, TX7, 39) rfl (Or.inr ⟨_, rfl⟩) hf hW k45 rfl (by decide) kfl_X7_38 rfl rfl (by decide +kernel) dX7_init_80 (fun R46 H locs hg hV => ?_)
  replace hf := hg
  replace hW := hV
  refine lv_aload_n X.1 X.2.1 dX7_init_83 rfl (lv_at hl 0 rfl) ?_
  refine lv_bipush (v := 8) X.1 X.2.1 dX7_init_84 (by decide) ?_
  refine ze_nwI (N := 8) X hf kar_int (by decide) (by decide) (by decide) hW (by show _ ≤ (31 : Nat); (try dsimp only); omega) (by show _ ≤ (7045 : Nat); (try dsimp only); omega) dX7_init_86 (fun n47 K48 I49 H hg hV => ?_)
  replace hf := hg
  replace hW := hV
  obtain ⟨k50, hg⟩ := zh_if hf
  replace hf := hg
  refine ze_putRF (ty := .array .int) (x := (some n42)) X hin 7 15 42 (RX7, TX7, 39) rfl (Or.inr ⟨_, rfl⟩) hf hW k50 rfl (by decide) kfl_X7_42 rfl rfl (by decide +kernel) dX7_init_88 (fun R51 H locs hg hV => ?_)
  replace hf := hg
  replace hW := hV
  refine lv_aload_n X.1 X.2.1 dX7_init_91 rfl (lv_at hl 0 rfl) ?_
  refine lv_bipush (v := 10) X.1 X.2.1 dX7_init_92 (by decide) ?_
  refine ze_nwI (N := 10) X hf kar_int (by decide) (by decide) (by decide) hW (by show _ ≤ (31 : Nat); (try dsimp only); omega) (by show _ ≤ (7045 : Nat); (try dsimp only); omega) dX7_init_94 (fun n52 K53 I54 H hg hV => ?_)
  replace hf := hg
  replace hW := hV
  obtain ⟨k55, hg⟩ := zh_if hf
  replace hf := hg
  refine ze_putRF (ty := .array .int) (x := (some n47)) X hin 7 17 45 (RX7, TX7, 39) rfl (Or.inr ⟨_, rfl⟩) hf hW k55 rfl (by decide) kfl_X7_45 rfl rfl (by decide +kernel) dX7_init_96 (fun R56 H locs hg hV => ?_)
  replace hf := hg
  replace hW := hV
  refine lv_aload_n X.1 X.2.1 dX7_init_99 rfl (lv_at hl 0 rfl) ?_
  refine lv_bipush (v := 10) X.1 X.2.1 dX7_init_100 (by decide) ?_
  refine ze_nwI (N := 10) X hf kar_int (by decide) (by decide) (by decide) hW (by show _ ≤ (31 : Nat); (try dsimp only); omega) (by show _ ≤ (7045 : Nat); (try dsimp only); omega) dX7_init_102 (fun n57 K58 I59 H hg hV => ?_)
  replace hf := hg
  replace hW := hV
  obtain ⟨k60, hg⟩ := zh_if hf
  replace hf := hg
  refine ze_putRF (ty := .array .int) (x := (some n52)) X hin 7 18 48 (RX7, TX7, 39) rfl (Or.inr ⟨_, rfl⟩) hf hW k60 rfl (by decide) kfl_X7_48 rfl rfl (by decide +kernel) dX7_init_104 (fun R61 H locs hg hV => ?_)
  replace hf := hg
  replace hW := hV
  refine lv_aload_n X.1 X.2.1 dX7_init_107 rfl (lv_at hl 0 rfl) ?_
  refine lv_bipush (v := 10) X.1 X.2.1 dX7_init_108 (by decide) ?_
  refine ze_nwI (N := 10) X hf kar_int (by decide) (by decide) (by decide) hW (by show _ ≤ (31 : Nat); (try dsimp only); omega) (by show _ ≤ (7045 : Nat); (try dsimp only); omega) dX7_init_110 (fun n62 K63 I64 H hg hV => ?_)
  replace hf := hg
  replace hW := hV
  obtain ⟨k65, hg⟩ := zh_if hf
  replace hf := hg
  refine ze_putRF (ty := .array .int) (x := (some n57)) X hin 7 19 51 (RX7, TX7, 39) rfl (Or.inr ⟨_, rfl⟩) hf hW k65 rfl (by decide) kfl_X7_51 rfl rfl (by decide +kernel) dX7_init_112 (fun R66 H locs hg hV => ?_)
  replace hf := hg
  replace hW := hV
  refine lv_aload_n X.1 X.2.1 dX7_init_115 rfl (lv_at hl 0 rfl) ?_
  refine lv_bipush (v := 10) X.1 X.2.1 dX7_init_116 (by decide) ?_
  refine ze_nwI (N := 10) X hf kar_int (by decide) (by decide) (by decide) hW (by show _ ≤ (31 : Nat); (try dsimp only); omega) (by show _ ≤ (7045 : Nat); (try dsimp only); omega) dX7_init_118 (fun n67 K68 I69 H hg hV => ?_)
  replace hf := hg
  replace hW := hV
  obtain ⟨k70, hg⟩ := zh_if hf
  replace hf := hg
  refine ze_putRF (ty := .array .int) (x := (some n62)) X hin 7 20 54 (RX7, TX7, 39) rfl (Or.inr ⟨_, rfl⟩) hf hW k70 rfl (by decide) kfl_X7_54 rfl rfl (by decide +kernel) dX7_init_120 (fun R71 H locs hg hV => ?_)
  replace hf := hg
  replace hW := hV
  refine lv_aload_n X.1 X.2.1 dX7_init_123 rfl (lv_at hl 0 rfl) ?_
  refine lv_bipush (v := 10) X.1 X.2.1 dX7_init_124 (by decide) ?_
  refine ze_nwI (N := 10) X hf kar_int (by decide) (by decide) (by decide) hW (by show _ ≤ (31 : Nat); (try dsimp only); omega) (by show _ ≤ (7045 : Nat); (try dsimp only); omega) dX7_init_126 (fun n72 K73 I74 H hg hV => ?_)
  replace hf := hg
  replace hW := hV
  obtain ⟨k75, hg⟩ := zh_if hf
  replace hf := hg
  refine ze_putRF (ty := .array .int) (x := (some n67)) X hin 7 21 57 (RX7, TX7, 39) rfl (Or.inr ⟨_, rfl⟩) hf hW k75 rfl (by decide) kfl_X7_57 rfl rfl (by decide +kernel) dX7_init_128 (fun R76 H locs hg hV => ?_)
  replace hf := hg
  replace hW := hV
  refine lv_aload_n X.1 X.2.1 dX7_init_131 rfl (lv_at hl 0 rfl) ?_
  refine lv_bipush (v := 10) X.1 X.2.1 dX7_init_132 (by decide) ?_
  refine ze_nwI (N := 10) X hf kar_int (by decide) (by decide) (by decide) hW (by show _ ≤ (31 : Nat); (try dsimp only); omega) (by show _ ≤ (7045 : Nat); (try dsimp only); omega) dX7_init_134 (fun n77 K78 I79 H hg hV => ?_)
  replace hf := hg
  replace hW := hV
  obtain ⟨k80, hg⟩ := zh_if hf
  replace hf := hg
  refine ze_putRF (ty := .array .int) (x := (some n72)) X hin 7 22 60 (RX7, TX7, 39) rfl (Or.inr ⟨_, rfl⟩) hf hW k80 rfl (by decide) kfl_X7_60 rfl rfl (by decide +kernel) dX7_init_136 (fun R81 H locs hg hV => ?_)
  replace hf := hg
  replace hW := hV
  refine lv_aload_n X.1 X.2.1 dX7_init_139 rfl (lv_at hl 0 rfl) ?_
  refine lv_bipush (v := 10) X.1 X.2.1 dX7_init_140 (by decide) ?_
  refine ze_nwI (N := 10) X hf kar_int (by decide) (by decide) (by decide) hW (by show _ ≤ (31 : Nat); (try dsimp only); omega) (by show _ ≤ (7045 : Nat); (try dsimp only); omega) dX7_init_142 (fun n82 K83 I84 H hg hV => ?_)
  replace hf := hg
  replace hW := hV
  obtain ⟨k85, hg⟩ := zh_if hf
  replace hf := hg
  refine ze_putRF (ty := .array .int) (x := (some n77)) X hin 7 23 63 (RX7, TX7, 39) rfl (Or.inr ⟨_, rfl⟩) hf hW k85 rfl (by decide) kfl_X7_63 rfl rfl (by decide +kernel) dX7_init_144 (fun R86 H locs hg hV => ?_)
  replace hf := hg
  replace hW := hV
  refine lv_aload_n X.1 X.2.1 dX7_init_147 rfl (lv_at hl 0 rfl) ?_
  refine lv_sipush (v := 160) X.1 X.2.1 dX7_init_148 (by decide) ?_
  refine ze_nwZ (N := 160) X hf kar_boolean (by decide) (by decide) (by decide) hW (by show _ ≤ (31 : Nat); (try dsimp only); omega) (by show _ ≤ (7045 : Nat); (try dsimp only); omega) dX7_init_151 (fun n87 K88 I89 H hg hV => ?_)
  replace hf := hg
  replace hW := hV
  obtain ⟨k90, hg⟩ := zh_if hf
  replace hf := hg
  refine ze_putRF (ty := .array .boolean) (x := (some n82)) X hin 7 24 66 (RX7, TX7, 39) rfl (Or.inr ⟨_, rfl⟩) hf hW k90 rfl (by decide) kfl_X7_66 rfl rfl (by decide +kernel) dX7_init_153 (fun R91 H locs hg hV => ?_)
  replace hf := hg
  replace hW := hV
  refine lv_aload_n X.1 X.2.1 dX7_init_156 rfl (lv_at hl 0 rfl) ?_
  refine lv_sipush (v := 160) X.1 X.2.1 dX7_init_157 (by decide) ?_
  refine ze_nwI (N := 160) X hf kar_int (by decide) (by decide) (by decide) hW (by show _ ≤ (31 : Nat); (try dsimp only); omega) (by show _ ≤ (7045 : Nat); (try dsimp only); omega) dX7_init_160 (fun n92 K93 I94 H hg hV => ?_)
  replace hf := hg
  replace hW := hV
  obtain ⟨k95, hg⟩ := zh_if hf
  replace hf := hg
  refine ze_putRF (ty := .array .int) (x := (some n87)) X hin 7 25 69 (RX7, TX7, 39) rfl (Or.inr ⟨_, rfl⟩) hf hW k95 rfl (by decide) kfl_X7_69 rfl rfl (by decide +kernel) dX7_init_162 (fun R96 H locs hg hV => ?_)
  replace hf := hg
  replace hW := hV
  refine lv_aload_n X.1 X.2.1 dX7_init_165 rfl (lv_at hl 0 rfl) ?_
  refine lv_sipush (v := 160) X.1 X.2.1 dX7_init_166 (by decide) ?_
  refine ze_nwI (N := 160) X hf kar_int (by decide) (by decide) (by decide) hW (by show _ ≤ (31 : Nat); (try dsimp only); omega) (by show _ ≤ (7045 : Nat); (try dsimp only); omega) dX7_init_169 (fun n97 K98 I99 H hg hV => ?_)
  replace hf := hg
  replace hW := hV
  obtain ⟨k100, hg⟩ := zh_if hf
  replace hf := hg
  refine ze_putRF (ty := .array .int) (x := (some n92)) X hin 7 26 72 (RX7, TX7, 39) rfl (Or.inr ⟨_, rfl⟩) hf hW k100 rfl (by decide) kfl_X7_72 rfl rfl (by decide +kernel) dX7_init_171 (fun R101 H locs hg hV => ?_)
  replace hf := hg
  replace hW := hV
  refine lv_aload_n X.1 X.2.1 dX7_init_174 rfl (lv_at hl 0 rfl) ?_
  refine lv_sipush (v := 160) X.1 X.2.1 dX7_init_175 (by decide) ?_
  refine ze_nwI (N := 160) X hf kar_int (by decide) (by decide) (by decide) hW (by show _ ≤ (31 : Nat); (try dsimp only); omega) (by show _ ≤ (7045 : Nat); (try dsimp only); omega) dX7_init_178 (fun n102 K103 I104 H hg hV => ?_)
  replace hf := hg
  replace hW := hV
  obtain ⟨k105, hg⟩ := zh_if hf
  replace hf := hg
  refine ze_putRF (ty := .array .int) (x := (some n97)) X hin 7 27 75 (RX7, TX7, 39) rfl (Or.inr ⟨_, rfl⟩) hf hW k105 rfl (by decide) kfl_X7_75 rfl rfl (by decide +kernel) dX7_init_180 (fun R106 H locs hg hV => ?_)
  replace hf := hg
  replace hW := hV
  refine lv_aload_n X.1 X.2.1 dX7_init_183 rfl (lv_at hl 0 rfl) ?_
  refine lv_sipush (v := 160) X.1 X.2.1 dX7_init_184 (by decide) ?_
  refine ze_nwI (N := 160) X hf kar_int (by decide) (by decide) (by decide) hW (by show _ ≤ (31 : Nat); (try dsimp only); omega) (by show _ ≤ (7045 : Nat); (try dsimp only); omega) dX7_init_187 (fun n107 K108 I109 H hg hV => ?_)
  replace hf := hg
  replace hW := hV
  obtain ⟨k110, hg⟩ := zh_if hf
  replace hf := hg
  refine ze_putRF (ty := .array .int) (x := (some n102)) X hin 7 28 78 (RX7, TX7, 39) rfl (Or.inr ⟨_, rfl⟩) hf hW k110 rfl (by decide) kfl_X7_78 rfl rfl (by decide +kernel) dX7_init_189 (fun R111 H locs hg hV => ?_)
  replace hf := hg
  replace hW := hV
  refine lv_aload_n X.1 X.2.1 dX7_init_192 rfl (lv_at hl 0 rfl) ?_
  refine lv_bipush (v := 10) X.1 X.2.1 dX7_init_193 (by decide) ?_
  refine ze_nwI (N := 10) X hf kar_int (by decide) (by decide) (by decide) hW (by show _ ≤ (31 : Nat); (try dsimp only); omega) (by show _ ≤ (7045 : Nat); (try dsimp only); omega) dX7_init_195 (fun n112 K113 I114 H hg hV => ?_)
  replace hf := hg
  replace hW := hV
  obtain ⟨k115, hg⟩ := zh_if hf
  replace hf := hg
  refine ze_putRF (ty := .array .int) (x := (some n107)) X hin 7 30 81 (RX7, TX7, 39) rfl (Or.inr ⟨_, rfl⟩) hf hW k115 rfl (by decide) kfl_X7_81 rfl rfl (by decide +kernel) dX7_init_197 (fun R116 H locs hg hV => ?_)
  replace hf := hg
  replace hW := hV
  refine lv_aload_n X.1 X.2.1 dX7_init_200 rfl (lv_at hl 0 rfl) ?_
  refine lv_bipush (v := 10) X.1 X.2.1 dX7_init_201 (by decide) ?_
  refine ze_nwI (N := 10) X hf kar_int (by decide) (by decide) (by decide) hW (by show _ ≤ (31 : Nat); (try dsimp only); omega) (by show _ ≤ (7045 : Nat); (try dsimp only); omega) dX7_init_203 (fun n117 K118 I119 H hg hV => ?_)
  replace hf := hg
  replace hW := hV
  obtain ⟨k120, hg⟩ := zh_if hf
  replace hf := hg
  refine ze_putRF (ty := .array .int) (x := (some n112)) X hin 7 31 84 (RX7, TX7, 39) rfl (Or.inr ⟨_, rfl⟩) hf hW k120 rfl (by decide) kfl_X7_84 rfl rfl (by decide +kernel) dX7_init_205 (fun R121 H locs hg hV => ?_)
  replace hf := hg
  replace hW := hV
  refine lv_aload_n X.1 X.2.1 dX7_init_208 rfl (lv_at hl 0 rfl) ?_
  refine lv_bipush (v := 10) X.1 X.2.1 dX7_init_209 (by decide) ?_
  refine ze_nwI (N := 10) X hf kar_int (by decide) (by decide) (by decide) hW (by show _ ≤ (31 : Nat); (try dsimp only); omega) (by show _ ≤ (7045 : Nat); (try dsimp only); omega) dX7_init_211 (fun n122 K123 I124 H hg hV => ?_)
  replace hf := hg
  replace hW := hV
  obtain ⟨k125, hg⟩ := zh_if hf
  replace hf := hg
  refine ze_putRF (ty := .array .int) (x := (some n117)) X hin 7 32 87 (RX7, TX7, 39) rfl (Or.inr ⟨_, rfl⟩) hf hW k125 rfl (by decide) kfl_X7_87 rfl rfl (by decide +kernel) dX7_init_213 (fun R126 H locs hg hV => ?_)
  replace hf := hg
  replace hW := hV
  refine lv_aload_n X.1 X.2.1 dX7_init_216 rfl (lv_at hl 0 rfl) ?_
  refine lv_bipush (v := 100) X.1 X.2.1 dX7_init_217 (by decide) ?_
  refine ze_nwZ (N := 100) X hf kar_boolean (by decide) (by decide) (by decide) hW (by show _ ≤ (31 : Nat); (try dsimp only); omega) (by show _ ≤ (7045 : Nat); (try dsimp only); omega) dX7_init_219 (fun n127 K128 I129 H hg hV => ?_)
  replace hf := hg
  replace hW := hV
  obtain ⟨k130, hg⟩ := zh_if hf
  replace hf := hg
  refine ze_putRF (ty := .array .boolean) (x := (some n122)) X hin 7 33 90 (RX7, TX7, 39) rfl (Or.inr ⟨_, rfl⟩) hf hW k130 rfl (by decide) kfl_X7_90 rfl rfl (by decide +kernel) dX7_init_221 (fun R131 H locs hg hV => ?_)
  replace hf := hg
  replace hW := hV
  refine lv_aload_n X.1 X.2.1 dX7_init_224 rfl (lv_at hl 0 rfl) ?_
  refine lv_bipush (v := 10) X.1 X.2.1 dX7_init_225 (by decide) ?_
  refine ze_nwI (N := 10) X hf kar_int (by decide) (by decide) (by decide) hW (by show _ ≤ (31 : Nat); (try dsimp only); omega) (by show _ ≤ (7045 : Nat); (try dsimp only); omega) dX7_init_227 (fun n132 K133 I134 H hg hV => ?_)
  replace hf := hg
  replace hW := hV
  obtain ⟨k135, hg⟩ := zh_if hf
  replace hf := hg
  refine ze_putRF (ty := .array .int) (x := (some n127)) X hin 7 34 93 (RX7, TX7, 39) rfl (Or.inr ⟨_, rfl⟩) hf hW k135 rfl (by decide) kfl_X7_93 rfl rfl (by decide +kernel) dX7_init_229 (fun R136 H locs hg hV => ?_)
  replace hf := hg
  replace hW := hV
  refine lv_aload_n X.1 X.2.1 dX7_init_232 rfl (lv_at hl 0 rfl) ?_
  refine lv_bipush (v := 10) X.1 X.2.1 dX7_init_233 (by decide) ?_
  refine ze_nwI (N := 10) X hf kar_int (by decide) (by decide) (by decide) hW (by show _ ≤ (31 : Nat); (try dsimp only); omega) (by show _ ≤ (7045 : Nat); (try dsimp only); omega) dX7_init_235 (fun n137 K138 I139 H hg hV => ?_)
  replace hf := hg
  replace hW := hV
  obtain ⟨k140, hg⟩ := zh_if hf
  replace hf := hg
  refine ze_putRF (ty := .array .int) (x := (some n132)) X hin 7 35 96 (RX7, TX7, 39) rfl (Or.inr ⟨_, rfl⟩) hf hW k140 rfl (by decide) kfl_X7_96 rfl rfl (by decide +kernel) dX7_init_237 (fun R141 H locs hg hV => ?_)
  replace hf := hg
  replace hW := hV
  refine lv_aload_n X.1 X.2.1 dX7_init_240 rfl (lv_at hl 0 rfl) ?_
  refine lv_bipush (v := 10) X.1 X.2.1 dX7_init_241 (by decide) ?_
  refine ze_nwZ (N := 10) X hf kar_boolean (by decide) (by decide) (by decide) hW (by show _ ≤ (31 : Nat); (try dsimp only); omega) (by show _ ≤ (7045 : Nat); (try dsimp only); omega) dX7_init_243 (fun n142 K143 I144 H hg hV => ?_)
  replace hf := hg
  replace hW := hV
  obtain ⟨k145, hg⟩ := zh_if hf
  replace hf := hg
  refine ze_putRF (ty := .array .boolean) (x := (some n137)) X hin 7 36 99 (RX7, TX7, 39) rfl (Or.inr ⟨_, rfl⟩) hf hW k145 rfl (by decide) kfl_X7_99 rfl rfl (by decide +kernel) dX7_init_245 (fun R146 H locs hg hV => ?_)
  replace hf := hg
  replace hW := hV
  refine lv_aload_n X.1 X.2.1 dX7_init_248 rfl (lv_at hl 0 rfl) ?_
  refine lv_bipush (v := 10) X.1 X.2.1 dX7_init_249 (by decide) ?_
  refine ze_nwZ (N := 10) X hf kar_boolean (by decide) (by decide) (by decide) hW (by show _ ≤ (31 : Nat); (try dsimp only); omega) (by show _ ≤ (7045 : Nat); (try dsimp only); omega) dX7_init_251 (fun n147 K148 I149 H hg hV => ?_)
  replace hf := hg
  replace hW := hV
  obtain ⟨k150, hg⟩ := zh_if hf
  replace hf := hg
  refine ze_putRF (ty := .array .boolean) (x := (some n142)) X hin 7 37 102 (RX7, TX7, 39) rfl (Or.inr ⟨_, rfl⟩) hf hW k150 rfl (by decide) kfl_X7_102 rfl rfl (by decide +kernel) dX7_init_253 (fun R151 H locs hg hV => ?_)
  replace hf := hg
  replace hW := hV
  refine lv_aload_n X.1 X.2.1 dX7_init_256 rfl (lv_at hl 0 rfl) ?_
  refine lv_bipush (v := 10) X.1 X.2.1 dX7_init_257 (by decide) ?_
  refine ze_nwZ (N := 10) X hf kar_boolean (by decide) (by decide) (by decide) hW (by show _ ≤ (31 : Nat); (try dsimp only); omega) (by show _ ≤ (7045 : Nat); (try dsimp only); omega) dX7_init_259 (fun n152 K153 I154 H hg hV => ?_)
  replace hf := hg
  replace hW := hV
  obtain ⟨k155, hg⟩ := zh_if hf
  replace hf := hg
  refine ze_putRF (ty := .array .boolean) (x := (some n147)) X hin 7 38 105 (RX7, TX7, 39) rfl (Or.inr ⟨_, rfl⟩) hf hW k155 rfl (by decide) kfl_X7_105 rfl rfl (by decide +kernel) dX7_init_261 (fun R156 H locs hg hV => ?_)
  replace hf := hg
  replace hW := hV
  obtain ⟨rfl, rfl, rfl, rfl⟩ := zi4 hf
  exact ze_retV X hr hlk hW (by (try dsimp only); omega) (by (try dsimp only); omega) dX7_init_264
end

/-! LeastPatternsModel.in(III)Z -/
def f_X7_in (F : Nat) (K : zK) (I : zI) (R : zR) (x0 : Int32) (x1 : Int32) (x2 : Int32) : Option (Int32) :=
  if x0 < x1 then
    some (0 : Int32)
  else
    if x2 < x0 then
      some (0 : Int32)
    else
      some (1 : Int32)
section
variable {p : Program} {l : Launch} {e : Env} {s : State} {m : MethodId} {args : Array Value} {below : List Frame} {meth : Method} {c : Code} {D : zD} {B n n0 n' fd ld : Nat} {K K0 K' : zK} {I I' : zI} {R R' : zR} {H : Heap} {locs : List Loc} {ls : Array Slot} {r : Int32}
set_option maxRecDepth 100000 in
set_option maxHeartbeats 4000000 in
theorem c_X7_in (l : Launch) (D : zD) (B n : Nat) {F : Nat} {K : zK} {I : zI} {R : zR} {x0 : Int32} {x1 : Int32} {x2 : Int32} {r : Int32} (hf : f_X7_in F K I R x0 x1 x2 = some r) : zM l yX7_in cX7_in 3 (some .boolean) ({ frames := 1, cells := 0, slots := 0, locals := 40 } : Room) D B n K I R [.int x0, .int x1, .int x2] (zQi D (zOwn B K (B + n)) r B n K I R) := by
  refine ze_entry (lv0 := [(0, .int x0), (1, .int x1), (2, .int x2)]) (by decide) (by simp [lg_sl, zcat, zcat_i, zcat_r, zcat_l]) (by simp [lv_args, zcat, zcat_i, zcat_r, zcat_l]) (fun p e s m below meth c X hr hlk hin hW ls hl => ?_)
  unfold f_X7_in at hf
  refine lv_iload_n X.1 X.2.1 dX7_in_0 rfl (lv_at hl 0 rfl) ?_
  refine lv_iload_n X.1 X.2.1 dX7_in_1 rfl (lv_at hl 1 rfl) ?_
  refine lv_icmp_lt (tgt := 14) X.1 X.2.1 dX7_in_2 (by decide) (fun c1 => ?_) (fun c1 => ?_)
  · replace hf := zif_pos c1 hf
    refine lv_iconst (v := 0) X.1 X.2.1 dX7_in_14 (by decide) ?_
    obtain rfl := zi1 hf
    exact ze_retZ X hr hlk (by decide) hW (Nat.le_refl _) (Nat.le_refl _) dX7_in_15
  · replace hf := zif_neg c1 hf
    refine lv_iload_n X.1 X.2.1 dX7_in_5 rfl (lv_at hl 0 rfl) ?_
    refine lv_iload_n X.1 X.2.1 dX7_in_6 rfl (lv_at hl 2 rfl) ?_
    refine lv_icmp_gt (tgt := 14) X.1 X.2.1 dX7_in_7 (by decide) (fun c2 => ?_) (fun c2 => ?_)
    · replace hf := zif_pos c2 hf
      refine lv_iconst (v := 0) X.1 X.2.1 dX7_in_14 (by decide) ?_
      obtain rfl := zi1 hf
      exact ze_retZ X hr hlk (by decide) hW (Nat.le_refl _) (Nat.le_refl _) dX7_in_15
    · replace hf := zif_neg c2 hf
      refine lv_iconst (v := 1) X.1 X.2.1 dX7_in_10 (by decide) ?_
      refine lv_goto (tgt := 15) X.1 X.2.1 dX7_in_11 (by decide) ?_
      obtain rfl := zi1 hf
      exact ze_retZ X hr hlk (by decide) hW (Nat.le_refl _) (Nat.le_refl _) dX7_in_15
end

/-! LeastPatternsModel.records()V -/
def g_X7_records_64 (F : Nat) (K : zK) (R : zR) (a0 : Nat)  (kself : zI → Int32 → Option (zI)) (I : zI) (x1 : Int32) : Option (zI) :=
  if (780 : Int32) ≤ x1 then
    some I
  else
    zbd (some (R a0 0)) fun o2 =>
    zbd (some (R a0 0)) fun o3 =>
    zbd (zdr K o3 1) fun a4 =>
    zbd (zrd K I a4 x1) fun v7 =>
    zbd (zdr K o2 1) fun a8 =>
    zbd (zwr K I a8 (((780 : Int32) * (I a0 1)) + x1) v7) fun I11 =>
    kself I11 (x1 + (1 : Int32))
def f_X7_records_64 (F : Nat) (K : zK) (R : zR) (a0 : Nat)  : Nat → zI → Int32 → Option (zI)
  | 0, _, _ => none
  | t + 1, I, x1 => g_X7_records_64 F K R a0  (f_X7_records_64 F K R a0  t) I x1
def f_X7_records_52 (F : Nat) (K : zK) (R : zR) (a0 : Nat)  (I : zI) : Option (zI) :=
  zbd (some (zup I a0 1 ((I a0 1) + (1 : Int32)))) fun I12 =>
  f_X7_records_64 F K R a0 F I12 (0 : Int32)
def g_X7_records_13 (F : Nat) (K : zK) (R : zR) (a0 : Nat)  (kself : zI → Int32 → Option (zI)) (I : zI) (x1 : Int32) : Option (zI) :=
  if (4680 : Int32) ≤ x1 then
    zbd (some (zup I a0 1 ((I a0 1) - (1 : Int32)))) fun I14 =>
    f_X7_records_52 F K R a0 I14
  else
    zbd (some (R a0 0)) fun o15 =>
    zbd (some (R a0 0)) fun o16 =>
    zbd (zdr K o16 1) fun a17 =>
    zbd (zrd K I a17 (x1 + (780 : Int32))) fun v20 =>
    zbd (zdr K o15 1) fun a21 =>
    zbd (zwr K I a21 x1 v20) fun I24 =>
    kself I24 (x1 + (1 : Int32))
def f_X7_records_13 (F : Nat) (K : zK) (R : zR) (a0 : Nat)  : Nat → zI → Int32 → Option (zI)
  | 0, _, _ => none
  | t + 1, I, x1 => g_X7_records_13 F K R a0  (f_X7_records_13 F K R a0  t) I x1
def f_X7_records (F : Nat) (K : zK) (I : zI) (R : zR) (a0 : Nat)  : Option (zI) :=
  if (I a0 1) = (6 : Int32) then
    f_X7_records_13 F K R a0 F I (780 : Int32)
  else
    f_X7_records_52 F K R a0 I
section
variable {p : Program} {l : Launch} {e : Env} {s : State} {m : MethodId} {args : Array Value} {below : List Frame} {meth : Method} {c : Code} {D : zD} {B n n0 n' fd ld : Nat} {K K0 K' : zK} {I I' : zI} {R R' : zR} {H : Heap} {locs : List Loc} {ls : Array Slot} {r : Int32}
set_option maxRecDepth 100000 in
set_option maxHeartbeats 4000000 in
theorem wg_X7_records_64 {F : Nat} {a0 : Nat}  (X : zX p s m c cX7_records 2 RX7 D) (hr : meth.sig.returnType = none) (hlk : meth.locks = false) (hK0 : (K a0).1 = 17)  {kself : zI → Int32 → Option (zI)} (hkself : ∀ (I : zI) (x1 : Int32) (H : Heap) (locs : List Loc) (ls : Array Slot), kself I x1 = some I' → zS (zOwn B K (B + n)) D B n K I R s.heap H locs → lv_has ls 2 [(0, .ref (B + a0)), (1, .int x1)] → W p l e ({ frames := 1, cells := 0, slots := 0, locals := 40 } : Room) s m args below meth c H locs 0 0 (MQ below (zQv D (zOwn B K (B + n)) B n K I' R) args s 0 0 (zOwn B K (B + n))) (F0 m 64 ls [])) {x1 : Int32} (hf : g_X7_records_64 F K R a0  kself I x1 = some I') (hW : zS (zOwn B K (B + n)) D B n K I R s.heap H locs) (hl : lv_has ls 2 [(0, .ref (B + a0)), (1, .int x1)]) : W p l e ({ frames := 1, cells := 0, slots := 0, locals := 40 } : Room) s m args below meth c H locs 0 0 (MQ below (zQv D (zOwn B K (B + n)) B n K I' R) args s 0 0 (zOwn B K (B + n))) (F0 m 64 ls []) := by
  unfold g_X7_records_64 at hf
  refine lv_iload_n X.1 X.2.1 dX7_records_64 rfl (lv_at hl 1 rfl) ?_
  refine lv_sipush (v := 780) X.1 X.2.1 dX7_records_65 (by decide) ?_
  refine lv_icmp_ge (tgt := 98) X.1 X.2.1 dX7_records_68 (by decide) (fun c1 => ?_) (fun c1 => ?_)
  · replace hf := zif_pos c1 hf
    obtain rfl := zi1 hf
    exact ze_retV X hr hlk hW (Nat.le_refl _) (Nat.le_refl _) dX7_records_98
  · replace hf := zif_neg c1 hf
    refine lv_aload_n X.1 X.2.1 dX7_records_71 rfl (lv_at hl 0 rfl) ?_
    refine ze_gtR X 7 0 7 (RX7, TX7, 39) rfl hf hW hK0 rfl (by decide) kfl_X7_7 dX7_records_72 (fun o2 hg => ?_)
    replace hf := hg
    refine lv_sipush (v := 780) X.1 X.2.1 dX7_records_75 (by decide) ?_
    refine lv_aload_n X.1 X.2.1 dX7_records_78 rfl (lv_at hl 0 rfl) ?_
    refine ze_getI X 7 1 108 (RX7, TX7, 39) rfl hW hK0 rfl (by decide) kfl_X7_108 dX7_records_79 ?_
    refine lv_imul X.1 X.2.1 dX7_records_82 ?_
    refine lv_iload_n X.1 X.2.1 dX7_records_83 rfl (lv_at hl 1 rfl) ?_
    refine lv_iadd X.1 X.2.1 dX7_records_84 ?_
    refine lv_aload_n X.1 X.2.1 dX7_records_85 rfl (lv_at hl 0 rfl) ?_
    refine ze_gtR X 7 0 7 (RX7, TX7, 39) rfl hf hW hK0 rfl (by decide) kfl_X7_7 dX7_records_86 (fun o3 hg => ?_)
    replace hf := hg
    refine lv_iload_n X.1 X.2.1 dX7_records_89 rfl (lv_at hl 1 rfl) ?_
    obtain ⟨a4, rfl, k6, hg⟩ := zh_dr hf
    replace hf := hg
    refine ze_iald X hf hW k6 dX7_records_90 (fun v7 hg => ?_)
    replace hf := hg
    obtain ⟨a8, rfl, k10, hg⟩ := zh_dr hf
    replace hf := hg
    refine ze_iast X hf hW k10 dX7_records_91 (fun I11 H locs hg hV => ?_)
    replace hf := hg
    replace hW := hV
    refine ze_iinc (lv' := [(1, .int (x1 + (1 : Int32))), (0, .ref (B + a0))]) (d := 1) X.1 X.2.1 dX7_records_92 hl (k := 1) rfl (by decide) (by decide) rfl (fun ls hk => ?_)
    replace hl := hk
    refine lv_goto (tgt := 64) X.1 X.2.1 dX7_records_95 (by decide) ?_
    exact hkself _ _ _ _ _ hf hW (lv_sub hl [1, 0] rfl)
set_option maxRecDepth 100000 in
set_option maxHeartbeats 4000000 in
theorem w_X7_records_64 {F : Nat} {a0 : Nat}  (X : zX p s m c cX7_records 2 RX7 D) (hr : meth.sig.returnType = none) (hlk : meth.locks = false) (hK0 : (K a0).1 = 17)  {t : Nat} {x1 : Int32} (hf : f_X7_records_64 F K R a0  t I x1 = some I') (hW : zS (zOwn B K (B + n)) D B n K I R s.heap H locs) (hl : lv_has ls 2 [(0, .ref (B + a0)), (1, .int x1)]) : W p l e ({ frames := 1, cells := 0, slots := 0, locals := 40 } : Room) s m args below meth c H locs 0 0 (MQ below (zQv D (zOwn B K (B + n)) B n K I' R) args s 0 0 (zOwn B K (B + n))) (F0 m 64 ls []) := by
  have key : ∀ t : Nat, ∀ (I : zI) (x1 : Int32) (H : Heap) (locs : List Loc) (ls : Array Slot), f_X7_records_64 F K R a0  t I x1 = some I' → zS (zOwn B K (B + n)) D B n K I R s.heap H locs → lv_has ls 2 [(0, .ref (B + a0)), (1, .int x1)] → W p l e ({ frames := 1, cells := 0, slots := 0, locals := 40 } : Room) s m args below meth c H locs 0 0 (MQ below (zQv D (zOwn B K (B + n)) B n K I' R) args s 0 0 (zOwn B K (B + n))) (F0 m 64 ls []) := by
    intro t
    induction t with
    | zero =>
      intro I x1 H locs ls hf hW hl
      cases hf
    | succ t ih =>
      intro I x1 H locs ls hf hW hl
      exact wg_X7_records_64 X hr hlk hK0  ih hf hW hl
  exact key t _ _ _ _ _ hf hW hl
set_option maxRecDepth 100000 in
set_option maxHeartbeats 4000000 in
theorem w_X7_records_52 {F : Nat} {a0 : Nat}  (X : zX p s m c cX7_records 2 RX7 D) (hr : meth.sig.returnType = none) (hlk : meth.locks = false) (hK0 : (K a0).1 = 17)   (hf : f_X7_records_52 F K R a0  I = some I') (hW : zS (zOwn B K (B + n)) D B n K I R s.heap H locs) (hl : lv_has ls 2 [(0, .ref (B + a0))]) : W p l e ({ frames := 1, cells := 0, slots := 0, locals := 40 } : Room) s m args below meth c H locs 0 0 (MQ below (zQv D (zOwn B K (B + n)) B n K I' R) args s 0 0 (zOwn B K (B + n))) (F0 m 52 ls []) := by
  unfold f_X7_records_52 at hf
  refine lv_aload_n X.1 X.2.1 dX7_records_52 rfl (lv_at hl 0 rfl) ?_
  refine lv_dup X.1 X.2.1 dX7_records_53 rfl ?_
  refine ze_getI X 7 1 108 (RX7, TX7, 39) rfl hW hK0 rfl (by decide) kfl_X7_108 dX7_records_54 ?_
  refine lv_iconst (v := 1) X.1 X.2.1 dX7_records_57 (by decide) ?_
  refine lv_iadd X.1 X.2.1 dX7_records_58 ?_
  refine ze_putI X 7 1 108 (RX7, TX7, 39) rfl hf hW hK0 rfl (by decide) kfl_X7_108 rfl (by decide +kernel) dX7_records_59 (fun I12 H locs hg hV => ?_)
  replace hf := hg
  replace hW := hV
  refine lv_iconst (v := 0) X.1 X.2.1 dX7_records_62 (by decide) ?_
  refine lv_istore_n (i := 1) (lv' := [(1, .int (0 : Int32)), (0, .ref (B + a0))]) X.1 X.2.1 dX7_records_63 rfl hl (by decide) rfl (fun ls hk => ?_)
  replace hl := hk
  exact w_X7_records_64 X hr hlk hK0 hf hW (lv_sub hl [1, 0] rfl)
set_option maxRecDepth 100000 in
set_option maxHeartbeats 4000000 in
theorem wg_X7_records_13 {F : Nat} {a0 : Nat}  (X : zX p s m c cX7_records 2 RX7 D) (hr : meth.sig.returnType = none) (hlk : meth.locks = false) (hK0 : (K a0).1 = 17)  {kself : zI → Int32 → Option (zI)} (hkself : ∀ (I : zI) (x1 : Int32) (H : Heap) (locs : List Loc) (ls : Array Slot), kself I x1 = some I' → zS (zOwn B K (B + n)) D B n K I R s.heap H locs → lv_has ls 2 [(0, .ref (B + a0)), (1, .int x1)] → W p l e ({ frames := 1, cells := 0, slots := 0, locals := 40 } : Room) s m args below meth c H locs 0 0 (MQ below (zQv D (zOwn B K (B + n)) B n K I' R) args s 0 0 (zOwn B K (B + n))) (F0 m 13 ls [])) {x1 : Int32} (hf : g_X7_records_13 F K R a0  kself I x1 = some I') (hW : zS (zOwn B K (B + n)) D B n K I R s.heap H locs) (hl : lv_has ls 2 [(0, .ref (B + a0)), (1, .int x1)]) : W p l e ({ frames := 1, cells := 0, slots := 0, locals := 40 } : Room) s m args below meth c H locs 0 0 (MQ below (zQv D (zOwn B K (B + n)) B n K I' R) args s 0 0 (zOwn B K (B + n))) (F0 m 13 ls []) := by
  unfold g_X7_records_13 at hf
  refine lv_iload_n X.1 X.2.1 dX7_records_13 rfl (lv_at hl 1 rfl) ?_
  refine lv_sipush (v := 4680) X.1 X.2.1 dX7_records_14 (by decide) ?_
  refine lv_icmp_ge (tgt := 42) X.1 X.2.1 dX7_records_17 (by decide) (fun c13 => ?_) (fun c13 => ?_)
  · replace hf := zif_pos c13 hf
    refine lv_aload_n X.1 X.2.1 dX7_records_42 rfl (lv_at hl 0 rfl) ?_
    refine lv_dup X.1 X.2.1 dX7_records_43 rfl ?_
    refine ze_getI X 7 1 108 (RX7, TX7, 39) rfl hW hK0 rfl (by decide) kfl_X7_108 dX7_records_44 ?_
    refine lv_iconst (v := 1) X.1 X.2.1 dX7_records_47 (by decide) ?_
    refine lv_isub X.1 X.2.1 dX7_records_48 ?_
    refine ze_putI X 7 1 108 (RX7, TX7, 39) rfl hf hW hK0 rfl (by decide) kfl_X7_108 rfl (by decide +kernel) dX7_records_49 (fun I14 H locs hg hV => ?_)
    replace hf := hg
    replace hW := hV
    exact w_X7_records_52 X hr hlk hK0 hf hW (lv_sub hl [0] rfl)
  · replace hf := zif_neg c13 hf
    refine lv_aload_n X.1 X.2.1 dX7_records_20 rfl (lv_at hl 0 rfl) ?_
    refine ze_gtR X 7 0 7 (RX7, TX7, 39) rfl hf hW hK0 rfl (by decide) kfl_X7_7 dX7_records_21 (fun o15 hg => ?_)
    replace hf := hg
    refine lv_iload_n X.1 X.2.1 dX7_records_24 rfl (lv_at hl 1 rfl) ?_
    refine lv_aload_n X.1 X.2.1 dX7_records_25 rfl (lv_at hl 0 rfl) ?_
    refine ze_gtR X 7 0 7 (RX7, TX7, 39) rfl hf hW hK0 rfl (by decide) kfl_X7_7 dX7_records_26 (fun o16 hg => ?_)
    replace hf := hg
    refine lv_iload_n X.1 X.2.1 dX7_records_29 rfl (lv_at hl 1 rfl) ?_
    refine lv_sipush (v := 780) X.1 X.2.1 dX7_records_30 (by decide) ?_
    refine lv_iadd X.1 X.2.1 dX7_records_33 ?_
    obtain ⟨a17, rfl, k19, hg⟩ := zh_dr hf
    replace hf := hg
    refine ze_iald X hf hW k19 dX7_records_34 (fun v20 hg => ?_)
    replace hf := hg
    obtain ⟨a21, rfl, k23, hg⟩ := zh_dr hf
    replace hf := hg
    refine ze_iast X hf hW k23 dX7_records_35 (fun I24 H locs hg hV => ?_)
    replace hf := hg
    replace hW := hV
    refine ze_iinc (lv' := [(1, .int (x1 + (1 : Int32))), (0, .ref (B + a0))]) (d := 1) X.1 X.2.1 dX7_records_36 hl (k := 1) rfl (by decide) (by decide) rfl (fun ls hk => ?_)
    replace hl := hk
    refine lv_goto (tgt := 13) X.1 X.2.1 dX7_records_39 (by decide) ?_
    exact hkself _ _ _ _ _ hf hW (lv_sub hl [1, 0] rfl)
set_option maxRecDepth 100000 in
set_option maxHeartbeats 4000000 in
theorem w_X7_records_13 {F : Nat} {a0 : Nat}  (X : zX p s m c cX7_records 2 RX7 D) (hr : meth.sig.returnType = none) (hlk : meth.locks = false) (hK0 : (K a0).1 = 17)  {t : Nat} {x1 : Int32} (hf : f_X7_records_13 F K R a0  t I x1 = some I') (hW : zS (zOwn B K (B + n)) D B n K I R s.heap H locs) (hl : lv_has ls 2 [(0, .ref (B + a0)), (1, .int x1)]) : W p l e ({ frames := 1, cells := 0, slots := 0, locals := 40 } : Room) s m args below meth c H locs 0 0 (MQ below (zQv D (zOwn B K (B + n)) B n K I' R) args s 0 0 (zOwn B K (B + n))) (F0 m 13 ls []) := by
  have key : ∀ t : Nat, ∀ (I : zI) (x1 : Int32) (H : Heap) (locs : List Loc) (ls : Array Slot), f_X7_records_13 F K R a0  t I x1 = some I' → zS (zOwn B K (B + n)) D B n K I R s.heap H locs → lv_has ls 2 [(0, .ref (B + a0)), (1, .int x1)] → W p l e ({ frames := 1, cells := 0, slots := 0, locals := 40 } : Room) s m args below meth c H locs 0 0 (MQ below (zQv D (zOwn B K (B + n)) B n K I' R) args s 0 0 (zOwn B K (B + n))) (F0 m 13 ls []) := by
    intro t
    induction t with
    | zero =>
      intro I x1 H locs ls hf hW hl
      cases hf
    | succ t ih =>
      intro I x1 H locs ls hf hW hl
      exact wg_X7_records_13 X hr hlk hK0  ih hf hW hl
  exact key t _ _ _ _ _ hf hW hl
set_option maxRecDepth 100000 in
set_option maxHeartbeats 4000000 in
theorem c_X7_records (l : Launch) (D : zD) (B n : Nat) {F : Nat} {K : zK} {I : zI} {R : zR} {a0 : Nat}  {I' : zI} (hK0 : (K a0).1 = 17) (hf : f_X7_records F K I R a0  = some I') : zM l yX7_records cX7_records 2 (none) ({ frames := 1, cells := 0, slots := 0, locals := 40 } : Room) D B n K I R [.ref (B + a0)] (zQv D (zOwn B K (B + n)) B n K I' R) := by
  refine ze_entry (lv0 := [(0, .ref (B + a0))]) (by decide) (by simp [lg_sl, zcat, zcat_i, zcat_r, zcat_l]) (by simp [lv_args, zcat, zcat_i, zcat_r, zcat_l]) (fun p e s m below meth c X hr hlk hin hW ls hl => ?_)
  unfold f_X7_records at hf
  refine lv_aload_n X.1 X.2.1 dX7_records_0 rfl (lv_at hl 0 rfl) ?_
  refine ze_getI X 7 1 108 (RX7, TX7, 39) rfl hW hK0 rfl (by decide) kfl_X7_108 dX7_records_1 ?_
  refine lv_bipush (v := 6) X.1 X.2.1 dX7_records_4 (by decide) ?_
  refine lv_icmp_ne (tgt := 52) X.1 X.2.1 dX7_records_6 (by decide) (fun c25 => ?_) (fun c25 => ?_)
  · replace hf := zif_neg c25 hf
    exact w_X7_records_52 X hr hlk hK0 hf hW hl
  · replace hf := zif_pos c25 hf
    refine lv_sipush (v := 780) X.1 X.2.1 dX7_records_9 (by decide) ?_
    refine lv_istore_n (i := 1) (lv' := [(1, .int (780 : Int32)), (0, .ref (B + a0))]) X.1 X.2.1 dX7_records_12 rfl hl (by decide) rfl (fun ls hk => ?_)
    replace hl := hk
    exact w_X7_records_13 X hr hlk hK0 hf hW (lv_sub hl [1, 0] rfl)
end

/-! LeastPatternsModel.sort(II)I -/
def f_X7_sort (F : Nat) (K : zK) (I : zI) (R : zR) (a0 : Nat) (x1 : Int32) (x2 : Int32) : Option (Int32) :=
  zbd (some (R a0 0)) fun o1 =>
  zbd (zdr K o1 1) fun a2 =>
  zbd (zrd K I a2 ((x1 + (1 : Int32)) + ((3 : Int32) * x2))) fun v5 =>
  some v5
section
variable {p : Program} {l : Launch} {e : Env} {s : State} {m : MethodId} {args : Array Value} {below : List Frame} {meth : Method} {c : Code} {D : zD} {B n n0 n' fd ld : Nat} {K K0 K' : zK} {I I' : zI} {R R' : zR} {H : Heap} {locs : List Loc} {ls : Array Slot} {r : Int32}
set_option maxRecDepth 100000 in
set_option maxHeartbeats 4000000 in
theorem c_X7_sort (l : Launch) (D : zD) (B n : Nat) {F : Nat} {K : zK} {I : zI} {R : zR} {a0 : Nat} {x1 : Int32} {x2 : Int32} {r : Int32} (hK0 : (K a0).1 = 17) (hf : f_X7_sort F K I R a0 x1 x2 = some r) : zM l yX7_sort cX7_sort 3 (some .int) ({ frames := 1, cells := 0, slots := 0, locals := 40 } : Room) D B n K I R [.ref (B + a0), .int x1, .int x2] (zQi D (zOwn B K (B + n)) r B n K I R) := by
  refine ze_entry (lv0 := [(0, .ref (B + a0)), (1, .int x1), (2, .int x2)]) (by decide) (by simp [lg_sl, zcat, zcat_i, zcat_r, zcat_l]) (by simp [lv_args, zcat, zcat_i, zcat_r, zcat_l]) (fun p e s m below meth c X hr hlk hin hW ls hl => ?_)
  unfold f_X7_sort at hf
  refine lv_aload_n X.1 X.2.1 dX7_sort_0 rfl (lv_at hl 0 rfl) ?_
  refine ze_gtR X 7 0 7 (RX7, TX7, 39) rfl hf hW hK0 rfl (by decide) kfl_X7_7 dX7_sort_1 (fun o1 hg => ?_)
  replace hf := hg
  refine lv_iload_n X.1 X.2.1 dX7_sort_4 rfl (lv_at hl 1 rfl) ?_
  refine lv_iconst (v := 1) X.1 X.2.1 dX7_sort_5 (by decide) ?_
  refine lv_iadd X.1 X.2.1 dX7_sort_6 ?_
  refine lv_iconst (v := 3) X.1 X.2.1 dX7_sort_7 (by decide) ?_
  refine lv_iload_n X.1 X.2.1 dX7_sort_8 rfl (lv_at hl 2 rfl) ?_
  refine lv_imul X.1 X.2.1 dX7_sort_9 ?_
  refine lv_iadd X.1 X.2.1 dX7_sort_10 ?_
  obtain ⟨a2, rfl, k4, hg⟩ := zh_dr hf
  replace hf := hg
  refine ze_iald X hf hW k4 dX7_sort_11 (fun v5 hg => ?_)
  replace hf := hg
  obtain rfl := zi1 hf
  exact ze_retI X hr hlk hW (Nat.le_refl _) (Nat.le_refl _) dX7_sort_12
end

/-! LeastPatternsModel.number(II)I -/
def f_X7_number (F : Nat) (K : zK) (I : zI) (R : zR) (a0 : Nat) (x1 : Int32) (x2 : Int32) : Option (Int32) :=
  zbd (some (R a0 0)) fun o1 =>
  zbd (zdr K o1 1) fun a2 =>
  zbd (zrd K I a2 ((x1 + (2 : Int32)) + ((3 : Int32) * x2))) fun v5 =>
  some v5
section
variable {p : Program} {l : Launch} {e : Env} {s : State} {m : MethodId} {args : Array Value} {below : List Frame} {meth : Method} {c : Code} {D : zD} {B n n0 n' fd ld : Nat} {K K0 K' : zK} {I I' : zI} {R R' : zR} {H : Heap} {locs : List Loc} {ls : Array Slot} {r : Int32}
set_option maxRecDepth 100000 in
set_option maxHeartbeats 4000000 in
theorem c_X7_number (l : Launch) (D : zD) (B n : Nat) {F : Nat} {K : zK} {I : zI} {R : zR} {a0 : Nat} {x1 : Int32} {x2 : Int32} {r : Int32} (hK0 : (K a0).1 = 17) (hf : f_X7_number F K I R a0 x1 x2 = some r) : zM l yX7_number cX7_number 3 (some .int) ({ frames := 1, cells := 0, slots := 0, locals := 40 } : Room) D B n K I R [.ref (B + a0), .int x1, .int x2] (zQi D (zOwn B K (B + n)) r B n K I R) := by
  refine ze_entry (lv0 := [(0, .ref (B + a0)), (1, .int x1), (2, .int x2)]) (by decide) (by simp [lg_sl, zcat, zcat_i, zcat_r, zcat_l]) (by simp [lv_args, zcat, zcat_i, zcat_r, zcat_l]) (fun p e s m below meth c X hr hlk hin hW ls hl => ?_)
  unfold f_X7_number at hf
  refine lv_aload_n X.1 X.2.1 dX7_number_0 rfl (lv_at hl 0 rfl) ?_
  refine ze_gtR X 7 0 7 (RX7, TX7, 39) rfl hf hW hK0 rfl (by decide) kfl_X7_7 dX7_number_1 (fun o1 hg => ?_)
  replace hf := hg
  refine lv_iload_n X.1 X.2.1 dX7_number_4 rfl (lv_at hl 1 rfl) ?_
  refine lv_iconst (v := 2) X.1 X.2.1 dX7_number_5 (by decide) ?_
  refine lv_iadd X.1 X.2.1 dX7_number_6 ?_
  refine lv_iconst (v := 3) X.1 X.2.1 dX7_number_7 (by decide) ?_
  refine lv_iload_n X.1 X.2.1 dX7_number_8 rfl (lv_at hl 2 rfl) ?_
  refine lv_imul X.1 X.2.1 dX7_number_9 ?_
  refine lv_iadd X.1 X.2.1 dX7_number_10 ?_
  obtain ⟨a2, rfl, k4, hg⟩ := zh_dr hf
  replace hf := hg
  refine ze_iald X hf hW k4 dX7_number_11 (fun v5 hg => ?_)
  replace hf := hg
  obtain rfl := zi1 hf
  exact ze_retI X hr hlk hW (Nat.le_refl _) (Nat.le_refl _) dX7_number_12
end

/-! LeastPatternsModel.arguments(II)I -/
def f_X7_arguments (F : Nat) (K : zK) (I : zI) (R : zR) (a0 : Nat) (x1 : Int32) (x2 : Int32) : Option (Int32) :=
  zbd (some (R a0 0)) fun o1 =>
  zbd (zdr K o1 1) fun a2 =>
  zbd (zrd K I a2 ((x1 + (3 : Int32)) + ((3 : Int32) * x2))) fun v5 =>
  some v5
section
variable {p : Program} {l : Launch} {e : Env} {s : State} {m : MethodId} {args : Array Value} {below : List Frame} {meth : Method} {c : Code} {D : zD} {B n n0 n' fd ld : Nat} {K K0 K' : zK} {I I' : zI} {R R' : zR} {H : Heap} {locs : List Loc} {ls : Array Slot} {r : Int32}
set_option maxRecDepth 100000 in
set_option maxHeartbeats 4000000 in
theorem c_X7_arguments (l : Launch) (D : zD) (B n : Nat) {F : Nat} {K : zK} {I : zI} {R : zR} {a0 : Nat} {x1 : Int32} {x2 : Int32} {r : Int32} (hK0 : (K a0).1 = 17) (hf : f_X7_arguments F K I R a0 x1 x2 = some r) : zM l yX7_arguments cX7_arguments 3 (some .int) ({ frames := 1, cells := 0, slots := 0, locals := 40 } : Room) D B n K I R [.ref (B + a0), .int x1, .int x2] (zQi D (zOwn B K (B + n)) r B n K I R) := by
  refine ze_entry (lv0 := [(0, .ref (B + a0)), (1, .int x1), (2, .int x2)]) (by decide) (by simp [lg_sl, zcat, zcat_i, zcat_r, zcat_l]) (by simp [lv_args, zcat, zcat_i, zcat_r, zcat_l]) (fun p e s m below meth c X hr hlk hin hW ls hl => ?_)
  unfold f_X7_arguments at hf
  refine lv_aload_n X.1 X.2.1 dX7_arguments_0 rfl (lv_at hl 0 rfl) ?_
  refine ze_gtR X 7 0 7 (RX7, TX7, 39) rfl hf hW hK0 rfl (by decide) kfl_X7_7 dX7_arguments_1 (fun o1 hg => ?_)
  replace hf := hg
  refine lv_iload_n X.1 X.2.1 dX7_arguments_4 rfl (lv_at hl 1 rfl) ?_
  refine lv_iconst (v := 3) X.1 X.2.1 dX7_arguments_5 (by decide) ?_
  refine lv_iadd X.1 X.2.1 dX7_arguments_6 ?_
  refine lv_iconst (v := 3) X.1 X.2.1 dX7_arguments_7 (by decide) ?_
  refine lv_iload_n X.1 X.2.1 dX7_arguments_8 rfl (lv_at hl 2 rfl) ?_
  refine lv_imul X.1 X.2.1 dX7_arguments_9 ?_
  refine lv_iadd X.1 X.2.1 dX7_arguments_10 ?_
  obtain ⟨a2, rfl, k4, hg⟩ := zh_dr hf
  replace hf := hg
  refine ze_iald X hf hW k4 dX7_arguments_11 (fun v5 hg => ?_)
  replace hf := hg
  obtain rfl := zi1 hf
  exact ze_retI X hr hlk hW (Nat.le_refl _) (Nat.le_refl _) dX7_arguments_12
end

/-! LeastPatternsModel.writes(IIIII)V -/
def f_X7_writes (F : Nat) (K : zK) (I : zI) (R : zR) (a0 : Nat) (x1 : Int32) (x2 : Int32) (x3 : Int32) (x4 : Int32) (x5 : Int32) : Option (zI) :=
  zbd (some (R a0 0)) fun o1 =>
  zbd (zdr K o1 1) fun a2 =>
  zbd (zwr K I a2 ((x1 + (1 : Int32)) + ((3 : Int32) * x2)) x3) fun I5 =>
  zbd (some (R a0 0)) fun o6 =>
  zbd (zdr K o6 1) fun a7 =>
  zbd (zwr K I5 a7 ((x1 + (2 : Int32)) + ((3 : Int32) * x2)) x4) fun I10 =>
  zbd (some (R a0 0)) fun o11 =>
  zbd (zdr K o11 1) fun a12 =>
  zbd (zwr K I10 a12 ((x1 + (3 : Int32)) + ((3 : Int32) * x2)) x5) fun I15 =>
  some I15
section
variable {p : Program} {l : Launch} {e : Env} {s : State} {m : MethodId} {args : Array Value} {below : List Frame} {meth : Method} {c : Code} {D : zD} {B n n0 n' fd ld : Nat} {K K0 K' : zK} {I I' : zI} {R R' : zR} {H : Heap} {locs : List Loc} {ls : Array Slot} {r : Int32}
set_option maxRecDepth 100000 in
set_option maxHeartbeats 4000000 in
theorem c_X7_writes (l : Launch) (D : zD) (B n : Nat) {F : Nat} {K : zK} {I : zI} {R : zR} {a0 : Nat} {x1 : Int32} {x2 : Int32} {x3 : Int32} {x4 : Int32} {x5 : Int32} {I' : zI} (hK0 : (K a0).1 = 17) (hf : f_X7_writes F K I R a0 x1 x2 x3 x4 x5 = some I') : zM l yX7_writes cX7_writes 6 (none) ({ frames := 1, cells := 0, slots := 0, locals := 40 } : Room) D B n K I R [.ref (B + a0), .int x1, .int x2, .int x3, .int x4, .int x5] (zQv D (zOwn B K (B + n)) B n K I' R) := by
  refine ze_entry (lv0 := [(0, .ref (B + a0)), (1, .int x1), (2, .int x2), (3, .int x3), (4, .int x4), (5, .int x5)]) (by decide) (by simp [lg_sl, zcat, zcat_i, zcat_r, zcat_l]) (by simp [lv_args, zcat, zcat_i, zcat_r, zcat_l]) (fun p e s m below meth c X hr hlk hin hW ls hl => ?_)
  unfold f_X7_writes at hf
  refine lv_aload_n X.1 X.2.1 dX7_writes_0 rfl (lv_at hl 0 rfl) ?_
  refine ze_gtR X 7 0 7 (RX7, TX7, 39) rfl hf hW hK0 rfl (by decide) kfl_X7_7 dX7_writes_1 (fun o1 hg => ?_)
  replace hf := hg
  refine lv_iload_n X.1 X.2.1 dX7_writes_4 rfl (lv_at hl 1 rfl) ?_
  refine lv_iconst (v := 1) X.1 X.2.1 dX7_writes_5 (by decide) ?_
  refine lv_iadd X.1 X.2.1 dX7_writes_6 ?_
  refine lv_iconst (v := 3) X.1 X.2.1 dX7_writes_7 (by decide) ?_
  refine lv_iload_n X.1 X.2.1 dX7_writes_8 rfl (lv_at hl 2 rfl) ?_
  refine lv_imul X.1 X.2.1 dX7_writes_9 ?_
  refine lv_iadd X.1 X.2.1 dX7_writes_10 ?_
  refine lv_iload_n X.1 X.2.1 dX7_writes_11 rfl (lv_at hl 3 rfl) ?_
  obtain ⟨a2, rfl, k4, hg⟩ := zh_dr hf
  replace hf := hg
  refine ze_iast X hf hW k4 dX7_writes_12 (fun I5 H locs hg hV => ?_)
  replace hf := hg
  replace hW := hV
  refine lv_aload_n X.1 X.2.1 dX7_writes_13 rfl (lv_at hl 0 rfl) ?_
  refine ze_gtR X 7 0 7 (RX7, TX7, 39) rfl hf hW hK0 rfl (by decide) kfl_X7_7 dX7_writes_14 (fun o6 hg => ?_)
  replace hf := hg
  refine lv_iload_n X.1 X.2.1 dX7_writes_17 rfl (lv_at hl 1 rfl) ?_
  refine lv_iconst (v := 2) X.1 X.2.1 dX7_writes_18 (by decide) ?_
  refine lv_iadd X.1 X.2.1 dX7_writes_19 ?_
  refine lv_iconst (v := 3) X.1 X.2.1 dX7_writes_20 (by decide) ?_
  refine lv_iload_n X.1 X.2.1 dX7_writes_21 rfl (lv_at hl 2 rfl) ?_
  refine lv_imul X.1 X.2.1 dX7_writes_22 ?_
  refine lv_iadd X.1 X.2.1 dX7_writes_23 ?_
  refine lv_iload X.1 X.2.1 dX7_writes_24 (lv_at hl 4 rfl) ?_
  obtain ⟨a7, rfl, k9, hg⟩ := zh_dr hf
  replace hf := hg
  refine ze_iast X hf hW k9 dX7_writes_26 (fun I10 H locs hg hV => ?_)
  replace hf := hg
  replace hW := hV
  refine lv_aload_n X.1 X.2.1 dX7_writes_27 rfl (lv_at hl 0 rfl) ?_
  refine ze_gtR X 7 0 7 (RX7, TX7, 39) rfl hf hW hK0 rfl (by decide) kfl_X7_7 dX7_writes_28 (fun o11 hg => ?_)
  replace hf := hg
  refine lv_iload_n X.1 X.2.1 dX7_writes_31 rfl (lv_at hl 1 rfl) ?_
  refine lv_iconst (v := 3) X.1 X.2.1 dX7_writes_32 (by decide) ?_
  refine lv_iadd X.1 X.2.1 dX7_writes_33 ?_
  refine lv_iconst (v := 3) X.1 X.2.1 dX7_writes_34 (by decide) ?_
  refine lv_iload_n X.1 X.2.1 dX7_writes_35 rfl (lv_at hl 2 rfl) ?_
  refine lv_imul X.1 X.2.1 dX7_writes_36 ?_
  refine lv_iadd X.1 X.2.1 dX7_writes_37 ?_
  refine lv_iload X.1 X.2.1 dX7_writes_38 (lv_at hl 5 rfl) ?_
  obtain ⟨a12, rfl, k14, hg⟩ := zh_dr hf
  replace hf := hg
  refine ze_iast X hf hW k14 dX7_writes_40 (fun I15 H locs hg hV => ?_)
  replace hf := hg
  replace hW := hV
  obtain rfl := zi1 hf
  exact ze_retV X hr hlk hW (Nat.le_refl _) (Nat.le_refl _) dX7_writes_41
end

/-! LeastPatternsModel.copies(II)V -/
def g_X7_copies_2 (F : Nat) (K : zK) (R : zR) (a0 : Nat)  (kself : zI → Int32 → Int32 → Int32 → Option (zI)) (I : zI) (x1 : Int32) (x2 : Int32) (x3 : Int32) : Option (zI) :=
  if (97 : Int32) ≤ x3 then
    some I
  else
    zbd (some (R a0 0)) fun o2 =>
    zbd (some (R a0 0)) fun o3 =>
    zbd (zdr K o3 1) fun a4 =>
    zbd (zrd K I a4 (x1 + x3)) fun v7 =>
    zbd (zdr K o2 1) fun a8 =>
    zbd (zwr K I a8 (x2 + x3) v7) fun I11 =>
    kself I11 x1 x2 (x3 + (1 : Int32))
def f_X7_copies_2 (F : Nat) (K : zK) (R : zR) (a0 : Nat)  : Nat → zI → Int32 → Int32 → Int32 → Option (zI)
  | 0, _, _, _, _ => none
  | t + 1, I, x1, x2, x3 => g_X7_copies_2 F K R a0  (f_X7_copies_2 F K R a0  t) I x1 x2 x3
def f_X7_copies (F : Nat) (K : zK) (I : zI) (R : zR) (a0 : Nat) (x1 : Int32) (x2 : Int32) : Option (zI) :=
  f_X7_copies_2 F K R a0 F I x1 x2 (0 : Int32)
section
variable {p : Program} {l : Launch} {e : Env} {s : State} {m : MethodId} {args : Array Value} {below : List Frame} {meth : Method} {c : Code} {D : zD} {B n n0 n' fd ld : Nat} {K K0 K' : zK} {I I' : zI} {R R' : zR} {H : Heap} {locs : List Loc} {ls : Array Slot} {r : Int32}
set_option maxRecDepth 100000 in
set_option maxHeartbeats 4000000 in
theorem wg_X7_copies_2 {F : Nat} {a0 : Nat}  (X : zX p s m c cX7_copies 4 RX7 D) (hr : meth.sig.returnType = none) (hlk : meth.locks = false) (hK0 : (K a0).1 = 17)  {kself : zI → Int32 → Int32 → Int32 → Option (zI)} (hkself : ∀ (I : zI) (x1 : Int32) (x2 : Int32) (x3 : Int32) (H : Heap) (locs : List Loc) (ls : Array Slot), kself I x1 x2 x3 = some I' → zS (zOwn B K (B + n)) D B n K I R s.heap H locs → lv_has ls 4 [(0, .ref (B + a0)), (1, .int x1), (2, .int x2), (3, .int x3)] → W p l e ({ frames := 1, cells := 0, slots := 0, locals := 40 } : Room) s m args below meth c H locs 0 0 (MQ below (zQv D (zOwn B K (B + n)) B n K I' R) args s 0 0 (zOwn B K (B + n))) (F0 m 2 ls [])) {x1 : Int32} {x2 : Int32} {x3 : Int32} (hf : g_X7_copies_2 F K R a0  kself I x1 x2 x3 = some I') (hW : zS (zOwn B K (B + n)) D B n K I R s.heap H locs) (hl : lv_has ls 4 [(0, .ref (B + a0)), (1, .int x1), (2, .int x2), (3, .int x3)]) : W p l e ({ frames := 1, cells := 0, slots := 0, locals := 40 } : Room) s m args below meth c H locs 0 0 (MQ below (zQv D (zOwn B K (B + n)) B n K I' R) args s 0 0 (zOwn B K (B + n))) (F0 m 2 ls []) := by
  unfold g_X7_copies_2 at hf
  refine lv_iload_n X.1 X.2.1 dX7_copies_2 rfl (lv_at hl 3 rfl) ?_
  refine lv_bipush (v := 97) X.1 X.2.1 dX7_copies_3 (by decide) ?_
  refine lv_icmp_ge (tgt := 30) X.1 X.2.1 dX7_copies_5 (by decide) (fun c1 => ?_) (fun c1 => ?_)
  · replace hf := zif_pos c1 hf
    obtain rfl := zi1 hf
    exact ze_retV X hr hlk hW (Nat.le_refl _) (Nat.le_refl _) dX7_copies_30
  · replace hf := zif_neg c1 hf
    refine lv_aload_n X.1 X.2.1 dX7_copies_8 rfl (lv_at hl 0 rfl) ?_
    refine ze_gtR X 7 0 7 (RX7, TX7, 39) rfl hf hW hK0 rfl (by decide) kfl_X7_7 dX7_copies_9 (fun o2 hg => ?_)
    replace hf := hg
    refine lv_iload_n X.1 X.2.1 dX7_copies_12 rfl (lv_at hl 2 rfl) ?_
    refine lv_iload_n X.1 X.2.1 dX7_copies_13 rfl (lv_at hl 3 rfl) ?_
    refine lv_iadd X.1 X.2.1 dX7_copies_14 ?_
    refine lv_aload_n X.1 X.2.1 dX7_copies_15 rfl (lv_at hl 0 rfl) ?_
    refine ze_gtR X 7 0 7 (RX7, TX7, 39) rfl hf hW hK0 rfl (by decide) kfl_X7_7 dX7_copies_16 (fun o3 hg => ?_)
    replace hf := hg
    refine lv_iload_n X.1 X.2.1 dX7_copies_19 rfl (lv_at hl 1 rfl) ?_
    refine lv_iload_n X.1 X.2.1 dX7_copies_20 rfl (lv_at hl 3 rfl) ?_
    refine lv_iadd X.1 X.2.1 dX7_copies_21 ?_
    obtain ⟨a4, rfl, k6, hg⟩ := zh_dr hf
    replace hf := hg
    refine ze_iald X hf hW k6 dX7_copies_22 (fun v7 hg => ?_)
    replace hf := hg
    obtain ⟨a8, rfl, k10, hg⟩ := zh_dr hf
    replace hf := hg
    refine ze_iast X hf hW k10 dX7_copies_23 (fun I11 H locs hg hV => ?_)
    replace hf := hg
    replace hW := hV
    refine ze_iinc (lv' := [(3, .int (x3 + (1 : Int32))), (0, .ref (B + a0)), (1, .int x1), (2, .int x2)]) (d := 1) X.1 X.2.1 dX7_copies_24 hl (k := 3) rfl (by decide) (by decide) rfl (fun ls hk => ?_)
    replace hl := hk
    refine lv_goto (tgt := 2) X.1 X.2.1 dX7_copies_27 (by decide) ?_
    exact hkself _ _ _ _ _ _ _ hf hW (lv_sub hl [1, 2, 3, 0] rfl)
set_option maxRecDepth 100000 in
set_option maxHeartbeats 4000000 in
theorem w_X7_copies_2 {F : Nat} {a0 : Nat}  (X : zX p s m c cX7_copies 4 RX7 D) (hr : meth.sig.returnType = none) (hlk : meth.locks = false) (hK0 : (K a0).1 = 17)  {t : Nat} {x1 : Int32} {x2 : Int32} {x3 : Int32} (hf : f_X7_copies_2 F K R a0  t I x1 x2 x3 = some I') (hW : zS (zOwn B K (B + n)) D B n K I R s.heap H locs) (hl : lv_has ls 4 [(0, .ref (B + a0)), (1, .int x1), (2, .int x2), (3, .int x3)]) : W p l e ({ frames := 1, cells := 0, slots := 0, locals := 40 } : Room) s m args below meth c H locs 0 0 (MQ below (zQv D (zOwn B K (B + n)) B n K I' R) args s 0 0 (zOwn B K (B + n))) (F0 m 2 ls []) := by
  have key : ∀ t : Nat, ∀ (I : zI) (x1 : Int32) (x2 : Int32) (x3 : Int32) (H : Heap) (locs : List Loc) (ls : Array Slot), f_X7_copies_2 F K R a0  t I x1 x2 x3 = some I' → zS (zOwn B K (B + n)) D B n K I R s.heap H locs → lv_has ls 4 [(0, .ref (B + a0)), (1, .int x1), (2, .int x2), (3, .int x3)] → W p l e ({ frames := 1, cells := 0, slots := 0, locals := 40 } : Room) s m args below meth c H locs 0 0 (MQ below (zQv D (zOwn B K (B + n)) B n K I' R) args s 0 0 (zOwn B K (B + n))) (F0 m 2 ls []) := by
    intro t
    induction t with
    | zero =>
      intro I x1 x2 x3 H locs ls hf hW hl
      cases hf
    | succ t ih =>
      intro I x1 x2 x3 H locs ls hf hW hl
      exact wg_X7_copies_2 X hr hlk hK0  ih hf hW hl
  exact key t _ _ _ _ _ _ _ hf hW hl
set_option maxRecDepth 100000 in
set_option maxHeartbeats 4000000 in
theorem c_X7_copies (l : Launch) (D : zD) (B n : Nat) {F : Nat} {K : zK} {I : zI} {R : zR} {a0 : Nat} {x1 : Int32} {x2 : Int32} {I' : zI} (hK0 : (K a0).1 = 17) (hf : f_X7_copies F K I R a0 x1 x2 = some I') : zM l yX7_copies cX7_copies 4 (none) ({ frames := 1, cells := 0, slots := 0, locals := 40 } : Room) D B n K I R [.ref (B + a0), .int x1, .int x2] (zQv D (zOwn B K (B + n)) B n K I' R) := by
  refine ze_entry (lv0 := [(0, .ref (B + a0)), (1, .int x1), (2, .int x2)]) (by decide) (by simp [lg_sl, zcat, zcat_i, zcat_r, zcat_l]) (by simp [lv_args, zcat, zcat_i, zcat_r, zcat_l]) (fun p e s m below meth c X hr hlk hin hW ls hl => ?_)
  unfold f_X7_copies at hf
  refine lv_iconst (v := 0) X.1 X.2.1 dX7_copies_0 (by decide) ?_
  refine lv_istore_n (i := 3) (lv' := [(3, .int (0 : Int32)), (0, .ref (B + a0)), (1, .int x1), (2, .int x2)]) X.1 X.2.1 dX7_copies_1 rfl hl (by decide) rfl (fun ls hk => ?_)
  replace hl := hk
  exact w_X7_copies_2 X hr hlk hK0 hf hW (lv_sub hl [1, 2, 3, 0] rfl)
end

/-! LeastPatternsModel.counts(I[I)V -/
def g_X7_counts_21 (F : Nat) (K : zK) (R : zR) (a0 : Nat) (k9 : zI → Int32 → Option Nat → Int32 → Option (zI)) (kself : zI → Int32 → Option Nat → Int32 → Int32 → Int32 → Option (zI)) (I : zI) (x1 : Int32) (x2 : Option Nat) (x3 : Int32) (x4 : Int32) (x5 : Int32) : Option (zI) :=
  zbd (f_X7_arguments F K I R a0 x1 x3) fun v1 =>
  if v1 ≤ x5 then
    zbd (zdr K x2 1) fun a4 =>
    zbd (zwr K I a4 x3 (x4 - x3)) fun I7 =>
    k9 I7 x1 (some a4) (x3 + (-1 : Int32))
  else
    zbd (zdr K x2 1) fun a8 =>
    zbd (zrd K I a8 x4) fun v11 =>
    zbd (some (x4 + v11)) fun v12 =>
    kself I x1 (some a8) x3 v12 (x5 + (1 : Int32))
def f_X7_counts_21 (F : Nat) (K : zK) (R : zR) (a0 : Nat) (k9 : zI → Int32 → Option Nat → Int32 → Option (zI)) : Nat → zI → Int32 → Option Nat → Int32 → Int32 → Int32 → Option (zI)
  | 0, _, _, _, _, _, _ => none
  | t + 1, I, x1, x2, x3, x4, x5 => g_X7_counts_21 F K R a0 k9 (f_X7_counts_21 F K R a0 k9 t) I x1 x2 x3 x4 x5
def g_X7_counts_9 (F : Nat) (K : zK) (R : zR) (a0 : Nat)  (kself : zI → Int32 → Option Nat → Int32 → Option (zI)) (I : zI) (x1 : Int32) (x2 : Option Nat) (x3 : Int32) : Option (zI) :=
  if x3 < (0 : Int32) then
    some I
  else
    zbd (some (x3 + (1 : Int32))) fun v14 =>
    f_X7_counts_21 F K R a0 kself F I x1 x2 x3 v14 (0 : Int32)
def f_X7_counts_9 (F : Nat) (K : zK) (R : zR) (a0 : Nat)  : Nat → zI → Int32 → Option Nat → Int32 → Option (zI)
  | 0, _, _, _, _ => none
  | t + 1, I, x1, x2, x3 => g_X7_counts_9 F K R a0  (f_X7_counts_9 F K R a0  t) I x1 x2 x3
def f_X7_counts (F : Nat) (K : zK) (I : zI) (R : zR) (a0 : Nat) (x1 : Int32) (x2 : Option Nat) : Option (zI) :=
  zbd (some (R a0 0)) fun o15 =>
  zbd (zdr K o15 1) fun a16 =>
  zbd (zrd K I a16 x1) fun v19 =>
  zbd (some (v19 - (1 : Int32))) fun v20 =>
  f_X7_counts_9 F K R a0 F I x1 x2 v20
section
variable {p : Program} {l : Launch} {e : Env} {s : State} {m : MethodId} {args : Array Value} {below : List Frame} {meth : Method} {c : Code} {D : zD} {B n n0 n' fd ld : Nat} {K K0 K' : zK} {I I' : zI} {R R' : zR} {H : Heap} {locs : List Loc} {ls : Array Slot} {r : Int32}
set_option maxRecDepth 100000 in
set_option maxHeartbeats 4000000 in
theorem wg_X7_counts_21 {F : Nat} {a0 : Nat} {k9 : zI → Int32 → Option Nat → Int32 → Option (zI)} (X : zX p s m c cX7_counts 6 RX7 D) (hr : meth.sig.returnType = none) (hlk : meth.locks = false) (hK0 : (K a0).1 = 17) (hk9 : ∀ (I : zI) (x1 : Int32) (x2 : Option Nat) (x3 : Int32) (H : Heap) (locs : List Loc) (ls : Array Slot), k9 I x1 x2 x3 = some I' → zS (zOwn B K (B + n)) D B n K I R s.heap H locs → lv_has ls 6 [(0, .ref (B + a0)), (1, .int x1), (2, zrf B x2), (3, .int x3)] → W p l e ({ frames := 2, cells := 0, slots := 0, locals := 62 } : Room) s m args below meth c H locs 0 0 (MQ below (zQv D (zOwn B K (B + n)) B n K I' R) args s 0 0 (zOwn B K (B + n))) (F0 m 9 ls [])) {kself : zI → Int32 → Option Nat → Int32 → Int32 → Int32 → Option (zI)} (hkself : ∀ (I : zI) (x1 : Int32) (x2 : Option Nat) (x3 : Int32) (x4 : Int32) (x5 : Int32) (H : Heap) (locs : List Loc) (ls : Array Slot), kself I x1 x2 x3 x4 x5 = some I' → zS (zOwn B K (B + n)) D B n K I R s.heap H locs → lv_has ls 6 [(0, .ref (B + a0)), (1, .int x1), (2, zrf B x2), (3, .int x3), (4, .int x4), (5, .int x5)] → W p l e ({ frames := 2, cells := 0, slots := 0, locals := 62 } : Room) s m args below meth c H locs 0 0 (MQ below (zQv D (zOwn B K (B + n)) B n K I' R) args s 0 0 (zOwn B K (B + n))) (F0 m 21 ls [])) {x1 : Int32} {x2 : Option Nat} {x3 : Int32} {x4 : Int32} {x5 : Int32} (hf : g_X7_counts_21 F K R a0 k9 kself I x1 x2 x3 x4 x5 = some I') (hW : zS (zOwn B K (B + n)) D B n K I R s.heap H locs) (hl : lv_has ls 6 [(0, .ref (B + a0)), (1, .int x1), (2, zrf B x2), (3, .int x3), (4, .int x4), (5, .int x5)]) : W p l e ({ frames := 2, cells := 0, slots := 0, locals := 62 } : Room) s m args below meth c H locs 0 0 (MQ below (zQv D (zOwn B K (B + n)) B n K I' R) args s 0 0 (zOwn B K (B + n))) (F0 m 21 ls []) := by
  unfold g_X7_counts_21 at hf
  refine lv_iload X.1 X.2.1 dX7_counts_21 (lv_at hl 5 rfl) ?_
  refine lv_aload_n X.1 X.2.1 dX7_counts_23 rfl (lv_at hl 0 rfl) ?_
  refine lv_iload_n X.1 X.2.1 dX7_counts_24 rfl (lv_at hl 1 rfl) ?_
  refine lv_iload_n X.1 X.2.1 dX7_counts_25 rfl (lv_at hl 3 rfl) ?_
  obtain ⟨v1, h2, hg⟩ := zh_bd hf
  replace hf := hg
  refine ze_aftI0 (ze_runV (As := [.int x1, .int x3]) (rest := [.int x5]) X 7 111 (c_X7_arguments l D B n hK0 h2) vX7_arguments kml_X7_111 hW hK0 rfl rfl ⟨by decide, by decide⟩ rfl hl.1 rfl (Nat.le_of_ble_eq_true rfl) ⟨Nat.le_refl _, Nat.le_refl _⟩ dX7_counts_26) hW (fun H locs hV => ?_)
  replace hW := hV
  refine lv_icmp_ge (tgt := 47) X.1 X.2.1 dX7_counts_29 (by decide) (fun c3 => ?_) (fun c3 => ?_)
  · replace hf := zif_pos c3 hf
    refine ze_aload_n X.1 X.2.1 dX7_counts_47 rfl (lv_at hl 2 rfl) ?_
    refine lv_iload_n X.1 X.2.1 dX7_counts_48 rfl (lv_at hl 3 rfl) ?_
    refine lv_iload X.1 X.2.1 dX7_counts_49 (lv_at hl 4 rfl) ?_
    refine lv_iload_n X.1 X.2.1 dX7_counts_51 rfl (lv_at hl 3 rfl) ?_
    refine lv_isub X.1 X.2.1 dX7_counts_52 ?_
    obtain ⟨a4, rfl, k6, hg⟩ := zh_dr hf
    replace hf := hg
    refine ze_iast X hf hW k6 dX7_counts_53 (fun I7 H locs hg hV => ?_)
    replace hf := hg
    replace hW := hV
    refine ze_iinc (lv' := [(3, .int (x3 + (-1 : Int32))), (0, .ref (B + a0)), (1, .int x1), (2, .ref (B + a4)), (4, .int x4), (5, .int x5)]) (d := -1) X.1 X.2.1 dX7_counts_54 hl (k := 3) rfl (by decide) (by decide) rfl (fun ls hk => ?_)
    replace hl := hk
    refine lv_goto (tgt := 9) X.1 X.2.1 dX7_counts_57 (by decide) ?_
    exact hk9 _ _ _ _ _ _ _ hf hW (lv_sub hl [1, 2, 3, 0] rfl)
  · replace hf := zif_neg c3 hf
    refine lv_iload X.1 X.2.1 dX7_counts_32 (lv_at hl 4 rfl) ?_
    refine ze_aload_n X.1 X.2.1 dX7_counts_34 rfl (lv_at hl 2 rfl) ?_
    refine lv_iload X.1 X.2.1 dX7_counts_35 (lv_at hl 4 rfl) ?_
    obtain ⟨a8, rfl, k10, hg⟩ := zh_dr hf
    replace hf := hg
    refine ze_iald X hf hW k10 dX7_counts_37 (fun v11 hg => ?_)
    replace hf := hg
    refine lv_iadd X.1 X.2.1 dX7_counts_38 ?_
    refine ze_nm hf (fun v12 hg => ?_)
    replace hf := hg
    refine lv_istore (lv' := [(4, .int v12), (0, .ref (B + a0)), (1, .int x1), (2, .ref (B + a8)), (3, .int x3), (5, .int x5)]) X.1 X.2.1 dX7_counts_39 hl (by decide) rfl (fun ls hk => ?_)
    replace hl := hk
    refine ze_iinc (lv' := [(5, .int (x5 + (1 : Int32))), (4, .int v12), (0, .ref (B + a0)), (1, .int x1), (2, .ref (B + a8)), (3, .int x3)]) (d := 1) X.1 X.2.1 dX7_counts_41 hl (k := 5) rfl (by decide) (by decide) rfl (fun ls hk => ?_)
    replace hl := hk
    refine lv_goto (tgt := 21) X.1 X.2.1 dX7_counts_44 (by decide) ?_
    exact hkself _ _ _ _ _ _ _ _ _ hf hW (lv_sub hl [2, 3, 4, 5, 1, 0] rfl)
set_option maxRecDepth 100000 in
set_option maxHeartbeats 4000000 in
theorem w_X7_counts_21 {F : Nat} {a0 : Nat} {k9 : zI → Int32 → Option Nat → Int32 → Option (zI)} (X : zX p s m c cX7_counts 6 RX7 D) (hr : meth.sig.returnType = none) (hlk : meth.locks = false) (hK0 : (K a0).1 = 17) (hk9 : ∀ (I : zI) (x1 : Int32) (x2 : Option Nat) (x3 : Int32) (H : Heap) (locs : List Loc) (ls : Array Slot), k9 I x1 x2 x3 = some I' → zS (zOwn B K (B + n)) D B n K I R s.heap H locs → lv_has ls 6 [(0, .ref (B + a0)), (1, .int x1), (2, zrf B x2), (3, .int x3)] → W p l e ({ frames := 2, cells := 0, slots := 0, locals := 62 } : Room) s m args below meth c H locs 0 0 (MQ below (zQv D (zOwn B K (B + n)) B n K I' R) args s 0 0 (zOwn B K (B + n))) (F0 m 9 ls [])) {t : Nat} {x1 : Int32} {x2 : Option Nat} {x3 : Int32} {x4 : Int32} {x5 : Int32} (hf : f_X7_counts_21 F K R a0 k9 t I x1 x2 x3 x4 x5 = some I') (hW : zS (zOwn B K (B + n)) D B n K I R s.heap H locs) (hl : lv_has ls 6 [(0, .ref (B + a0)), (1, .int x1), (2, zrf B x2), (3, .int x3), (4, .int x4), (5, .int x5)]) : W p l e ({ frames := 2, cells := 0, slots := 0, locals := 62 } : Room) s m args below meth c H locs 0 0 (MQ below (zQv D (zOwn B K (B + n)) B n K I' R) args s 0 0 (zOwn B K (B + n))) (F0 m 21 ls []) := by
  have key : ∀ t : Nat, ∀ (I : zI) (x1 : Int32) (x2 : Option Nat) (x3 : Int32) (x4 : Int32) (x5 : Int32) (H : Heap) (locs : List Loc) (ls : Array Slot), f_X7_counts_21 F K R a0 k9 t I x1 x2 x3 x4 x5 = some I' → zS (zOwn B K (B + n)) D B n K I R s.heap H locs → lv_has ls 6 [(0, .ref (B + a0)), (1, .int x1), (2, zrf B x2), (3, .int x3), (4, .int x4), (5, .int x5)] → W p l e ({ frames := 2, cells := 0, slots := 0, locals := 62 } : Room) s m args below meth c H locs 0 0 (MQ below (zQv D (zOwn B K (B + n)) B n K I' R) args s 0 0 (zOwn B K (B + n))) (F0 m 21 ls []) := by
    intro t
    induction t with
    | zero =>
      intro I x1 x2 x3 x4 x5 H locs ls hf hW hl
      cases hf
    | succ t ih =>
      intro I x1 x2 x3 x4 x5 H locs ls hf hW hl
      exact wg_X7_counts_21 X hr hlk hK0 hk9 ih hf hW hl
  exact key t _ _ _ _ _ _ _ _ _ hf hW hl
set_option maxRecDepth 100000 in
set_option maxHeartbeats 4000000 in
theorem wg_X7_counts_9 {F : Nat} {a0 : Nat}  (X : zX p s m c cX7_counts 6 RX7 D) (hr : meth.sig.returnType = none) (hlk : meth.locks = false) (hK0 : (K a0).1 = 17)  {kself : zI → Int32 → Option Nat → Int32 → Option (zI)} (hkself : ∀ (I : zI) (x1 : Int32) (x2 : Option Nat) (x3 : Int32) (H : Heap) (locs : List Loc) (ls : Array Slot), kself I x1 x2 x3 = some I' → zS (zOwn B K (B + n)) D B n K I R s.heap H locs → lv_has ls 6 [(0, .ref (B + a0)), (1, .int x1), (2, zrf B x2), (3, .int x3)] → W p l e ({ frames := 2, cells := 0, slots := 0, locals := 62 } : Room) s m args below meth c H locs 0 0 (MQ below (zQv D (zOwn B K (B + n)) B n K I' R) args s 0 0 (zOwn B K (B + n))) (F0 m 9 ls [])) {x1 : Int32} {x2 : Option Nat} {x3 : Int32} (hf : g_X7_counts_9 F K R a0  kself I x1 x2 x3 = some I') (hW : zS (zOwn B K (B + n)) D B n K I R s.heap H locs) (hl : lv_has ls 6 [(0, .ref (B + a0)), (1, .int x1), (2, zrf B x2), (3, .int x3)]) : W p l e ({ frames := 2, cells := 0, slots := 0, locals := 62 } : Room) s m args below meth c H locs 0 0 (MQ below (zQv D (zOwn B K (B + n)) B n K I' R) args s 0 0 (zOwn B K (B + n))) (F0 m 9 ls []) := by
  unfold g_X7_counts_9 at hf
  refine lv_iload_n X.1 X.2.1 dX7_counts_9 rfl (lv_at hl 3 rfl) ?_
  refine lv_if_lt (tgt := 60) X.1 X.2.1 dX7_counts_10 (by decide) (fun c13 => ?_) (fun c13 => ?_)
  · replace hf := zif_pos c13 hf
    obtain rfl := zi1 hf
    exact ze_retV X hr hlk hW (Nat.le_refl _) (Nat.le_refl _) dX7_counts_60
  · replace hf := zif_neg c13 hf
    refine lv_iload_n X.1 X.2.1 dX7_counts_13 rfl (lv_at hl 3 rfl) ?_
    refine lv_iconst (v := 1) X.1 X.2.1 dX7_counts_14 (by decide) ?_
    refine lv_iadd X.1 X.2.1 dX7_counts_15 ?_
    refine ze_nm hf (fun v14 hg => ?_)
    replace hf := hg
    refine lv_istore (lv' := [(4, .int v14), (0, .ref (B + a0)), (1, .int x1), (2, zrf B x2), (3, .int x3)]) X.1 X.2.1 dX7_counts_16 hl (by decide) rfl (fun ls hk => ?_)
    replace hl := hk
    refine lv_iconst (v := 0) X.1 X.2.1 dX7_counts_18 (by decide) ?_
    refine lv_istore (lv' := [(5, .int (0 : Int32)), (4, .int v14), (0, .ref (B + a0)), (1, .int x1), (2, zrf B x2), (3, .int x3)]) X.1 X.2.1 dX7_counts_19 hl (by decide) rfl (fun ls hk => ?_)
    replace hl := hk
    exact w_X7_counts_21 X hr hlk hK0 hkself hf hW (lv_sub hl [2, 3, 4, 5, 1, 0] rfl)
set_option maxRecDepth 100000 in
set_option maxHeartbeats 4000000 in
theorem w_X7_counts_9 {F : Nat} {a0 : Nat}  (X : zX p s m c cX7_counts 6 RX7 D) (hr : meth.sig.returnType = none) (hlk : meth.locks = false) (hK0 : (K a0).1 = 17)  {t : Nat} {x1 : Int32} {x2 : Option Nat} {x3 : Int32} (hf : f_X7_counts_9 F K R a0  t I x1 x2 x3 = some I') (hW : zS (zOwn B K (B + n)) D B n K I R s.heap H locs) (hl : lv_has ls 6 [(0, .ref (B + a0)), (1, .int x1), (2, zrf B x2), (3, .int x3)]) : W p l e ({ frames := 2, cells := 0, slots := 0, locals := 62 } : Room) s m args below meth c H locs 0 0 (MQ below (zQv D (zOwn B K (B + n)) B n K I' R) args s 0 0 (zOwn B K (B + n))) (F0 m 9 ls []) := by
  have key : ∀ t : Nat, ∀ (I : zI) (x1 : Int32) (x2 : Option Nat) (x3 : Int32) (H : Heap) (locs : List Loc) (ls : Array Slot), f_X7_counts_9 F K R a0  t I x1 x2 x3 = some I' → zS (zOwn B K (B + n)) D B n K I R s.heap H locs → lv_has ls 6 [(0, .ref (B + a0)), (1, .int x1), (2, zrf B x2), (3, .int x3)] → W p l e ({ frames := 2, cells := 0, slots := 0, locals := 62 } : Room) s m args below meth c H locs 0 0 (MQ below (zQv D (zOwn B K (B + n)) B n K I' R) args s 0 0 (zOwn B K (B + n))) (F0 m 9 ls []) := by
    intro t
    induction t with
    | zero =>
      intro I x1 x2 x3 H locs ls hf hW hl
      cases hf
    | succ t ih =>
      intro I x1 x2 x3 H locs ls hf hW hl
      exact wg_X7_counts_9 X hr hlk hK0  ih hf hW hl
  exact key t _ _ _ _ _ _ _ hf hW hl
set_option maxRecDepth 100000 in
set_option maxHeartbeats 4000000 in
theorem c_X7_counts (l : Launch) (D : zD) (B n : Nat) {F : Nat} {K : zK} {I : zI} {R : zR} {a0 : Nat} {x1 : Int32} {x2 : Option Nat} {I' : zI} (hK0 : (K a0).1 = 17) (hf : f_X7_counts F K I R a0 x1 x2 = some I') : zM l yX7_counts cX7_counts 6 (none) ({ frames := 2, cells := 0, slots := 0, locals := 62 } : Room) D B n K I R [.ref (B + a0), .int x1, zrf B x2] (zQv D (zOwn B K (B + n)) B n K I' R) := by
  refine ze_entry (lv0 := [(0, .ref (B + a0)), (1, .int x1), (2, zrf B x2)]) (by decide) (by simp [lg_sl, zcat, zcat_i, zcat_r, zcat_l]) (by simp [lv_args, zcat, zcat_i, zcat_r, zcat_l]) (fun p e s m below meth c X hr hlk hin hW ls hl => ?_)
  unfold f_X7_counts at hf
  refine lv_aload_n X.1 X.2.1 dX7_counts_0 rfl (lv_at hl 0 rfl) ?_
  refine ze_gtR X 7 0 7 (RX7, TX7, 39) rfl hf hW hK0 rfl (by decide) kfl_X7_7 dX7_counts_1 (fun o15 hg => ?_)
  replace hf := hg
  refine lv_iload_n X.1 X.2.1 dX7_counts_4 rfl (lv_at hl 1 rfl) ?_
  obtain ⟨a16, rfl, k18, hg⟩ := zh_dr hf
  replace hf := hg
  refine ze_iald X hf hW k18 dX7_counts_5 (fun v19 hg => ?_)
  replace hf := hg
  refine lv_iconst (v := 1) X.1 X.2.1 dX7_counts_6 (by decide) ?_
  refine lv_isub X.1 X.2.1 dX7_counts_7 ?_
  refine ze_nm hf (fun v20 hg => ?_)
  replace hf := hg
  refine lv_istore_n (i := 3) (lv' := [(3, .int v20), (0, .ref (B + a0)), (1, .int x1), (2, zrf B x2)]) X.1 X.2.1 dX7_counts_8 rfl hl (by decide) (by first | rfl | (simp [zcat, zcat_i, zcat_r, zcat_l, zrf_some]; done) | (simp [zcat, zcat_i, zcat_r, zcat_l, zrf_some]; decide)) (fun ls hk => ?_)
  replace hl := hk
  exact w_X7_counts_9 X hr hlk hK0 hf hW (lv_sub hl [1, 2, 3, 0] rfl)
end

/-! LeastPatternsModel.levels(I)V -/
def g_X7_levels_43 (F : Nat) (K : zK) (R : zR) (a0 : Nat) (k26 : zI → Int32 → Int32 → Option (zI)) (kself : zI → Int32 → Int32 → Int32 → Int32 → Option (zI)) (I : zI) (x1 : Int32) (x2 : Int32) (x3 : Int32) (x4 : Int32) : Option (zI) :=
  zbd (f_X7_arguments F K I R a0 x1 x2) fun v1 =>
  if v1 ≤ x4 then
    k26 I x1 (x2 + (1 : Int32))
  else
    zbd (some (R a0 7)) fun o4 =>
    zbd (some (R a0 7)) fun o5 =>
    zbd (zdr K o5 1) fun a6 =>
    zbd (zrd K I a6 x2) fun v9 =>
    zbd (zdr K o4 1) fun a10 =>
    zbd (zwr K I a10 x3 (v9 + (1 : Int32))) fun I13 =>
    zbd (some (R a0 8)) fun o14 =>
    zbd (zdr K o14 1) fun a15 =>
    zbd (zwr K I13 a15 x3 x2) fun I18 =>
    zbd (some (R a0 5)) fun o19 =>
    zbd (zdr K o19 1) fun a20 =>
    zbd (zrd K I18 a20 x3) fun v23 =>
    zbd (some (x3 + v23)) fun v24 =>
    kself I18 x1 x2 v24 (x4 + (1 : Int32))
def f_X7_levels_43 (F : Nat) (K : zK) (R : zR) (a0 : Nat) (k26 : zI → Int32 → Int32 → Option (zI)) : Nat → zI → Int32 → Int32 → Int32 → Int32 → Option (zI)
  | 0, _, _, _, _, _ => none
  | t + 1, I, x1, x2, x3, x4 => g_X7_levels_43 F K R a0 k26 (f_X7_levels_43 F K R a0 k26 t) I x1 x2 x3 x4
def g_X7_levels_26 (F : Nat) (K : zK) (R : zR) (a0 : Nat)  (kself : zI → Int32 → Int32 → Option (zI)) (I : zI) (x1 : Int32) (x2 : Int32) : Option (zI) :=
  zbd (some (R a0 0)) fun o25 =>
  zbd (zdr K o25 1) fun a26 =>
  zbd (zrd K I a26 x1) fun v29 =>
  if v29 ≤ x2 then
    some I
  else
    zbd (some (x2 + (1 : Int32))) fun v31 =>
    f_X7_levels_43 F K R a0 kself F I x1 x2 v31 (0 : Int32)
def f_X7_levels_26 (F : Nat) (K : zK) (R : zR) (a0 : Nat)  : Nat → zI → Int32 → Int32 → Option (zI)
  | 0, _, _, _ => none
  | t + 1, I, x1, x2 => g_X7_levels_26 F K R a0  (f_X7_levels_26 F K R a0  t) I x1 x2
def f_X7_levels (F : Nat) (K : zK) (I : zI) (R : zR) (a0 : Nat) (x1 : Int32) : Option (zI) :=
  zbd (some (R a0 5)) fun o32 =>
  zbd (f_X7_counts F K I R a0 x1 o32) fun I33 =>
  zbd (some (R a0 7)) fun o35 =>
  zbd (zdr K o35 1) fun a36 =>
  zbd (zwr K I33 a36 (0 : Int32) (0 : Int32)) fun I39 =>
  zbd (some (R a0 8)) fun o40 =>
  zbd (zdr K o40 1) fun a41 =>
  zbd (zwr K I39 a41 (0 : Int32) (-9 : Int32)) fun I44 =>
  f_X7_levels_26 F K R a0 F I44 x1 (0 : Int32)
section
variable {p : Program} {l : Launch} {e : Env} {s : State} {m : MethodId} {args : Array Value} {below : List Frame} {meth : Method} {c : Code} {D : zD} {B n n0 n' fd ld : Nat} {K K0 K' : zK} {I I' : zI} {R R' : zR} {H : Heap} {locs : List Loc} {ls : Array Slot} {r : Int32}
set_option maxRecDepth 100000 in
set_option maxHeartbeats 4000000 in
theorem wg_X7_levels_43 {F : Nat} {a0 : Nat} {k26 : zI → Int32 → Int32 → Option (zI)} (X : zX p s m c cX7_levels 5 RX7 D) (hr : meth.sig.returnType = none) (hlk : meth.locks = false) (hK0 : (K a0).1 = 17) (hk26 : ∀ (I : zI) (x1 : Int32) (x2 : Int32) (H : Heap) (locs : List Loc) (ls : Array Slot), k26 I x1 x2 = some I' → zS (zOwn B K (B + n)) D B n K I R s.heap H locs → lv_has ls 5 [(0, .ref (B + a0)), (1, .int x1), (2, .int x2)] → W p l e ({ frames := 3, cells := 0, slots := 0, locals := 87 } : Room) s m args below meth c H locs 0 0 (MQ below (zQv D (zOwn B K (B + n)) B n K I' R) args s 0 0 (zOwn B K (B + n))) (F0 m 26 ls [])) {kself : zI → Int32 → Int32 → Int32 → Int32 → Option (zI)} (hkself : ∀ (I : zI) (x1 : Int32) (x2 : Int32) (x3 : Int32) (x4 : Int32) (H : Heap) (locs : List Loc) (ls : Array Slot), kself I x1 x2 x3 x4 = some I' → zS (zOwn B K (B + n)) D B n K I R s.heap H locs → lv_has ls 5 [(0, .ref (B + a0)), (1, .int x1), (2, .int x2), (3, .int x3), (4, .int x4)] → W p l e ({ frames := 3, cells := 0, slots := 0, locals := 87 } : Room) s m args below meth c H locs 0 0 (MQ below (zQv D (zOwn B K (B + n)) B n K I' R) args s 0 0 (zOwn B K (B + n))) (F0 m 43 ls [])) {x1 : Int32} {x2 : Int32} {x3 : Int32} {x4 : Int32} (hf : g_X7_levels_43 F K R a0 k26 kself I x1 x2 x3 x4 = some I') (hW : zS (zOwn B K (B + n)) D B n K I R s.heap H locs) (hl : lv_has ls 5 [(0, .ref (B + a0)), (1, .int x1), (2, .int x2), (3, .int x3), (4, .int x4)]) : W p l e ({ frames := 3, cells := 0, slots := 0, locals := 87 } : Room) s m args below meth c H locs 0 0 (MQ below (zQv D (zOwn B K (B + n)) B n K I' R) args s 0 0 (zOwn B K (B + n))) (F0 m 43 ls []) := by
  unfold g_X7_levels_43 at hf
  refine lv_iload X.1 X.2.1 dX7_levels_43 (lv_at hl 4 rfl) ?_
  refine lv_aload_n X.1 X.2.1 dX7_levels_45 rfl (lv_at hl 0 rfl) ?_
  refine lv_iload_n X.1 X.2.1 dX7_levels_46 rfl (lv_at hl 1 rfl) ?_
  refine lv_iload_n X.1 X.2.1 dX7_levels_47 rfl (lv_at hl 2 rfl) ?_
  obtain ⟨v1, h2, hg⟩ := zh_bd hf
  replace hf := hg
  refine ze_aftI0 (ze_runV (As := [.int x1, .int x2]) (rest := [.int x4]) X 7 111 (c_X7_arguments l D B n hK0 h2) vX7_arguments kml_X7_111 hW hK0 rfl rfl ⟨by decide, by decide⟩ rfl hl.1 rfl (Nat.le_of_ble_eq_true rfl) ⟨Nat.le_refl _, Nat.le_refl _⟩ dX7_levels_48) hW (fun H locs hV => ?_)
  replace hW := hV
  refine lv_icmp_ge (tgt := 90) X.1 X.2.1 dX7_levels_51 (by decide) (fun c3 => ?_) (fun c3 => ?_)
  · replace hf := zif_pos c3 hf
    refine ze_iinc (lv' := [(2, .int (x2 + (1 : Int32))), (0, .ref (B + a0)), (1, .int x1), (3, .int x3), (4, .int x4)]) (d := 1) X.1 X.2.1 dX7_levels_90 hl (k := 2) rfl (by decide) (by decide) rfl (fun ls hk => ?_)
    replace hl := hk
    refine lv_goto (tgt := 26) X.1 X.2.1 dX7_levels_93 (by decide) ?_
    exact hk26 _ _ _ _ _ _ hf hW (lv_sub hl [1, 2, 0] rfl)
  · replace hf := zif_neg c3 hf
    refine lv_aload_n X.1 X.2.1 dX7_levels_54 rfl (lv_at hl 0 rfl) ?_
    refine ze_gtR X 7 7 26 (RX7, TX7, 39) rfl hf hW hK0 rfl (by decide) kfl_X7_26 dX7_levels_55 (fun o4 hg => ?_)
    replace hf := hg
    refine lv_iload_n X.1 X.2.1 dX7_levels_58 rfl (lv_at hl 3 rfl) ?_
    refine lv_aload_n X.1 X.2.1 dX7_levels_59 rfl (lv_at hl 0 rfl) ?_
    refine ze_gtR X 7 7 26 (RX7, TX7, 39) rfl hf hW hK0 rfl (by decide) kfl_X7_26 dX7_levels_60 (fun o5 hg => ?_)
    replace hf := hg
    refine lv_iload_n X.1 X.2.1 dX7_levels_63 rfl (lv_at hl 2 rfl) ?_
    obtain ⟨a6, rfl, k8, hg⟩ := zh_dr hf
    replace hf := hg
    refine ze_iald X hf hW k8 dX7_levels_64 (fun v9 hg => ?_)
    replace hf := hg
    refine lv_iconst (v := 1) X.1 X.2.1 dX7_levels_65 (by decide) ?_
    refine lv_iadd X.1 X.2.1 dX7_levels_66 ?_
    obtain ⟨a10, rfl, k12, hg⟩ := zh_dr hf
    replace hf := hg
    refine ze_iast X hf hW k12 dX7_levels_67 (fun I13 H locs hg hV => ?_)
    replace hf := hg
    replace hW := hV
    refine lv_aload_n X.1 X.2.1 dX7_levels_68 rfl (lv_at hl 0 rfl) ?_
    refine ze_gtR X 7 8 29 (RX7, TX7, 39) rfl hf hW hK0 rfl (by decide) kfl_X7_29 dX7_levels_69 (fun o14 hg => ?_)
    replace hf := hg
    refine lv_iload_n X.1 X.2.1 dX7_levels_72 rfl (lv_at hl 3 rfl) ?_
    refine lv_iload_n X.1 X.2.1 dX7_levels_73 rfl (lv_at hl 2 rfl) ?_
    obtain ⟨a15, rfl, k17, hg⟩ := zh_dr hf
    replace hf := hg
    refine ze_iast X hf hW k17 dX7_levels_74 (fun I18 H locs hg hV => ?_)
    replace hf := hg
    replace hW := hV
    refine lv_iload_n X.1 X.2.1 dX7_levels_75 rfl (lv_at hl 3 rfl) ?_
    refine lv_aload_n X.1 X.2.1 dX7_levels_76 rfl (lv_at hl 0 rfl) ?_
    refine ze_gtR X 7 5 20 (RX7, TX7, 39) rfl hf hW hK0 rfl (by decide) kfl_X7_20 dX7_levels_77 (fun o19 hg => ?_)
    replace hf := hg
    refine lv_iload_n X.1 X.2.1 dX7_levels_80 rfl (lv_at hl 3 rfl) ?_
    obtain ⟨a20, rfl, k22, hg⟩ := zh_dr hf
    replace hf := hg
    refine ze_iald X hf hW k22 dX7_levels_81 (fun v23 hg => ?_)
    replace hf := hg
    refine lv_iadd X.1 X.2.1 dX7_levels_82 ?_
    refine ze_nm hf (fun v24 hg => ?_)
    replace hf := hg
    refine lv_istore_n (i := 3) (lv' := [(3, .int v24), (0, .ref (B + a0)), (1, .int x1), (2, .int x2), (4, .int x4)]) X.1 X.2.1 dX7_levels_83 rfl hl (by decide) rfl (fun ls hk => ?_)
    replace hl := hk
    refine ze_iinc (lv' := [(4, .int (x4 + (1 : Int32))), (3, .int v24), (0, .ref (B + a0)), (1, .int x1), (2, .int x2)]) (d := 1) X.1 X.2.1 dX7_levels_84 hl (k := 4) rfl (by decide) (by decide) rfl (fun ls hk => ?_)
    replace hl := hk
    refine lv_goto (tgt := 43) X.1 X.2.1 dX7_levels_87 (by decide) ?_
    exact hkself _ _ _ _ _ _ _ _ hf hW (lv_sub hl [2, 3, 4, 1, 0] rfl)
set_option maxRecDepth 100000 in
set_option maxHeartbeats 4000000 in
theorem w_X7_levels_43 {F : Nat} {a0 : Nat} {k26 : zI → Int32 → Int32 → Option (zI)} (X : zX p s m c cX7_levels 5 RX7 D) (hr : meth.sig.returnType = none) (hlk : meth.locks = false) (hK0 : (K a0).1 = 17) (hk26 : ∀ (I : zI) (x1 : Int32) (x2 : Int32) (H : Heap) (locs : List Loc) (ls : Array Slot), k26 I x1 x2 = some I' → zS (zOwn B K (B + n)) D B n K I R s.heap H locs → lv_has ls 5 [(0, .ref (B + a0)), (1, .int x1), (2, .int x2)] → W p l e ({ frames := 3, cells := 0, slots := 0, locals := 87 } : Room) s m args below meth c H locs 0 0 (MQ below (zQv D (zOwn B K (B + n)) B n K I' R) args s 0 0 (zOwn B K (B + n))) (F0 m 26 ls [])) {t : Nat} {x1 : Int32} {x2 : Int32} {x3 : Int32} {x4 : Int32} (hf : f_X7_levels_43 F K R a0 k26 t I x1 x2 x3 x4 = some I') (hW : zS (zOwn B K (B + n)) D B n K I R s.heap H locs) (hl : lv_has ls 5 [(0, .ref (B + a0)), (1, .int x1), (2, .int x2), (3, .int x3), (4, .int x4)]) : W p l e ({ frames := 3, cells := 0, slots := 0, locals := 87 } : Room) s m args below meth c H locs 0 0 (MQ below (zQv D (zOwn B K (B + n)) B n K I' R) args s 0 0 (zOwn B K (B + n))) (F0 m 43 ls []) := by
  have key : ∀ t : Nat, ∀ (I : zI) (x1 : Int32) (x2 : Int32) (x3 : Int32) (x4 : Int32) (H : Heap) (locs : List Loc) (ls : Array Slot), f_X7_levels_43 F K R a0 k26 t I x1 x2 x3 x4 = some I' → zS (zOwn B K (B + n)) D B n K I R s.heap H locs → lv_has ls 5 [(0, .ref (B + a0)), (1, .int x1), (2, .int x2), (3, .int x3), (4, .int x4)] → W p l e ({ frames := 3, cells := 0, slots := 0, locals := 87 } : Room) s m args below meth c H locs 0 0 (MQ below (zQv D (zOwn B K (B + n)) B n K I' R) args s 0 0 (zOwn B K (B + n))) (F0 m 43 ls []) := by
    intro t
    induction t with
    | zero =>
      intro I x1 x2 x3 x4 H locs ls hf hW hl
      cases hf
    | succ t ih =>
      intro I x1 x2 x3 x4 H locs ls hf hW hl
      exact wg_X7_levels_43 X hr hlk hK0 hk26 ih hf hW hl
  exact key t _ _ _ _ _ _ _ _ hf hW hl
set_option maxRecDepth 100000 in
set_option maxHeartbeats 4000000 in
theorem wg_X7_levels_26 {F : Nat} {a0 : Nat}  (X : zX p s m c cX7_levels 5 RX7 D) (hr : meth.sig.returnType = none) (hlk : meth.locks = false) (hK0 : (K a0).1 = 17)  {kself : zI → Int32 → Int32 → Option (zI)} (hkself : ∀ (I : zI) (x1 : Int32) (x2 : Int32) (H : Heap) (locs : List Loc) (ls : Array Slot), kself I x1 x2 = some I' → zS (zOwn B K (B + n)) D B n K I R s.heap H locs → lv_has ls 5 [(0, .ref (B + a0)), (1, .int x1), (2, .int x2)] → W p l e ({ frames := 3, cells := 0, slots := 0, locals := 87 } : Room) s m args below meth c H locs 0 0 (MQ below (zQv D (zOwn B K (B + n)) B n K I' R) args s 0 0 (zOwn B K (B + n))) (F0 m 26 ls [])) {x1 : Int32} {x2 : Int32} (hf : g_X7_levels_26 F K R a0  kself I x1 x2 = some I') (hW : zS (zOwn B K (B + n)) D B n K I R s.heap H locs) (hl : lv_has ls 5 [(0, .ref (B + a0)), (1, .int x1), (2, .int x2)]) : W p l e ({ frames := 3, cells := 0, slots := 0, locals := 87 } : Room) s m args below meth c H locs 0 0 (MQ below (zQv D (zOwn B K (B + n)) B n K I' R) args s 0 0 (zOwn B K (B + n))) (F0 m 26 ls []) := by
  unfold g_X7_levels_26 at hf
  refine lv_iload_n X.1 X.2.1 dX7_levels_26 rfl (lv_at hl 2 rfl) ?_
  refine lv_aload_n X.1 X.2.1 dX7_levels_27 rfl (lv_at hl 0 rfl) ?_
  refine ze_gtR X 7 0 7 (RX7, TX7, 39) rfl hf hW hK0 rfl (by decide) kfl_X7_7 dX7_levels_28 (fun o25 hg => ?_)
  replace hf := hg
  refine lv_iload_n X.1 X.2.1 dX7_levels_31 rfl (lv_at hl 1 rfl) ?_
  obtain ⟨a26, rfl, k28, hg⟩ := zh_dr hf
  replace hf := hg
  refine ze_iald X hf hW k28 dX7_levels_32 (fun v29 hg => ?_)
  replace hf := hg
  refine lv_icmp_ge (tgt := 96) X.1 X.2.1 dX7_levels_33 (by decide) (fun c30 => ?_) (fun c30 => ?_)
  · replace hf := zif_pos c30 hf
    obtain rfl := zi1 hf
    exact ze_retV X hr hlk hW (Nat.le_refl _) (Nat.le_refl _) dX7_levels_96
  · replace hf := zif_neg c30 hf
    refine lv_iload_n X.1 X.2.1 dX7_levels_36 rfl (lv_at hl 2 rfl) ?_
    refine lv_iconst (v := 1) X.1 X.2.1 dX7_levels_37 (by decide) ?_
    refine lv_iadd X.1 X.2.1 dX7_levels_38 ?_
    refine ze_nm hf (fun v31 hg => ?_)
    replace hf := hg
    refine lv_istore_n (i := 3) (lv' := [(3, .int v31), (0, .ref (B + a0)), (1, .int x1), (2, .int x2)]) X.1 X.2.1 dX7_levels_39 rfl hl (by decide) rfl (fun ls hk => ?_)
    replace hl := hk
    refine lv_iconst (v := 0) X.1 X.2.1 dX7_levels_40 (by decide) ?_
    refine lv_istore (lv' := [(4, .int (0 : Int32)), (3, .int v31), (0, .ref (B + a0)), (1, .int x1), (2, .int x2)]) X.1 X.2.1 dX7_levels_41 hl (by decide) rfl (fun ls hk => ?_)
    replace hl := hk
    exact w_X7_levels_43 X hr hlk hK0 hkself hf hW (lv_sub hl [2, 3, 4, 1, 0] rfl)
set_option maxRecDepth 100000 in
set_option maxHeartbeats 4000000 in
theorem w_X7_levels_26 {F : Nat} {a0 : Nat}  (X : zX p s m c cX7_levels 5 RX7 D) (hr : meth.sig.returnType = none) (hlk : meth.locks = false) (hK0 : (K a0).1 = 17)  {t : Nat} {x1 : Int32} {x2 : Int32} (hf : f_X7_levels_26 F K R a0  t I x1 x2 = some I') (hW : zS (zOwn B K (B + n)) D B n K I R s.heap H locs) (hl : lv_has ls 5 [(0, .ref (B + a0)), (1, .int x1), (2, .int x2)]) : W p l e ({ frames := 3, cells := 0, slots := 0, locals := 87 } : Room) s m args below meth c H locs 0 0 (MQ below (zQv D (zOwn B K (B + n)) B n K I' R) args s 0 0 (zOwn B K (B + n))) (F0 m 26 ls []) := by
  have key : ∀ t : Nat, ∀ (I : zI) (x1 : Int32) (x2 : Int32) (H : Heap) (locs : List Loc) (ls : Array Slot), f_X7_levels_26 F K R a0  t I x1 x2 = some I' → zS (zOwn B K (B + n)) D B n K I R s.heap H locs → lv_has ls 5 [(0, .ref (B + a0)), (1, .int x1), (2, .int x2)] → W p l e ({ frames := 3, cells := 0, slots := 0, locals := 87 } : Room) s m args below meth c H locs 0 0 (MQ below (zQv D (zOwn B K (B + n)) B n K I' R) args s 0 0 (zOwn B K (B + n))) (F0 m 26 ls []) := by
    intro t
    induction t with
    | zero =>
      intro I x1 x2 H locs ls hf hW hl
      cases hf
    | succ t ih =>
      intro I x1 x2 H locs ls hf hW hl
      exact wg_X7_levels_26 X hr hlk hK0  ih hf hW hl
  exact key t _ _ _ _ _ _ hf hW hl
set_option maxRecDepth 100000 in
set_option maxHeartbeats 4000000 in
theorem c_X7_levels (l : Launch) (D : zD) (B n : Nat) {F : Nat} {K : zK} {I : zI} {R : zR} {a0 : Nat} {x1 : Int32} {I' : zI} (hK0 : (K a0).1 = 17) (hf : f_X7_levels F K I R a0 x1 = some I') : zM l yX7_levels cX7_levels 5 (none) ({ frames := 3, cells := 0, slots := 0, locals := 87 } : Room) D B n K I R [.ref (B + a0), .int x1] (zQv D (zOwn B K (B + n)) B n K I' R) := by
  refine ze_entry (lv0 := [(0, .ref (B + a0)), (1, .int x1)]) (by decide) (by simp [lg_sl, zcat, zcat_i, zcat_r, zcat_l]) (by simp [lv_args, zcat, zcat_i, zcat_r, zcat_l]) (fun p e s m below meth c X hr hlk hin hW ls hl => ?_)
  unfold f_X7_levels at hf
  refine lv_aload_n X.1 X.2.1 dX7_levels_0 rfl (lv_at hl 0 rfl) ?_
  refine lv_iload_n X.1 X.2.1 dX7_levels_1 rfl (lv_at hl 1 rfl) ?_
  refine lv_aload_n X.1 X.2.1 dX7_levels_2 rfl (lv_at hl 0 rfl) ?_
  refine ze_gtR X 7 5 20 (RX7, TX7, 39) rfl hf hW hK0 rfl (by decide) kfl_X7_20 dX7_levels_3 (fun o32 hg => ?_)
  replace hf := hg
  obtain ⟨I33, h34, hg⟩ := zh_bd hf
  replace hf := hg
  refine ze_aftV0 (ze_runV (As := [.int x1, zrf B o32]) (rest := []) X 7 115 (c_X7_counts l D B n hK0 h34) vX7_counts kml_X7_115 hW hK0 rfl rfl ⟨by decide, by decide⟩ rfl hl.1 rfl (Nat.le_of_ble_eq_true rfl) ⟨Nat.le_refl _, Nat.le_refl _⟩ dX7_levels_6) hW (fun H locs hV => ?_)
  replace hW := hV
  refine lv_aload_n X.1 X.2.1 dX7_levels_9 rfl (lv_at hl 0 rfl) ?_
  refine ze_gtR X 7 7 26 (RX7, TX7, 39) rfl hf hW hK0 rfl (by decide) kfl_X7_26 dX7_levels_10 (fun o35 hg => ?_)
  replace hf := hg
  refine lv_iconst (v := 0) X.1 X.2.1 dX7_levels_13 (by decide) ?_
  refine lv_iconst (v := 0) X.1 X.2.1 dX7_levels_14 (by decide) ?_
  obtain ⟨a36, rfl, k38, hg⟩ := zh_dr hf
  replace hf := hg
  refine ze_iast X hf hW k38 dX7_levels_15 (fun I39 H locs hg hV => ?_)
  replace hf := hg
  replace hW := hV
  refine lv_aload_n X.1 X.2.1 dX7_levels_16 rfl (lv_at hl 0 rfl) ?_
  refine ze_gtR X 7 8 29 (RX7, TX7, 39) rfl hf hW hK0 rfl (by decide) kfl_X7_29 dX7_levels_17 (fun o40 hg => ?_)
  replace hf := hg
  refine lv_iconst (v := 0) X.1 X.2.1 dX7_levels_20 (by decide) ?_
  refine lv_bipush (v := -9) X.1 X.2.1 dX7_levels_21 (by decide) ?_
  obtain ⟨a41, rfl, k43, hg⟩ := zh_dr hf
  replace hf := hg
  refine ze_iast X hf hW k43 dX7_levels_23 (fun I44 H locs hg hV => ?_)
  replace hf := hg
  replace hW := hV
  refine lv_iconst (v := 0) X.1 X.2.1 dX7_levels_24 (by decide) ?_
  refine lv_istore_n (i := 2) (lv' := [(2, .int (0 : Int32)), (0, .ref (B + a0)), (1, .int x1)]) X.1 X.2.1 dX7_levels_25 rfl hl (by decide) rfl (fun ls hk => ?_)
  replace hl := hk
  exact w_X7_levels_26 X hr hlk hK0 hf hW (lv_sub hl [1, 2, 0] rfl)
end

/-! LeastPatternsModel.child(II[I)I -/
def g_X7_child_8 (F : Nat) (K : zK) (I : zI) (R : zR) (a0 : Nat)  (kself : Int32 → Option Nat → Int32 → Int32 → Option (Int32)) (x2 : Int32) (x3 : Option Nat) (x4 : Int32) (x5 : Int32) : Option (Int32) :=
  if x2 ≤ x5 then
    some x4
  else
    zbd (zdr K x3 1) fun a2 =>
    zbd (zrd K I a2 x4) fun v5 =>
    zbd (some (x4 + v5)) fun v6 =>
    kself x2 (some a2) v6 (x5 + (1 : Int32))
def f_X7_child_8 (F : Nat) (K : zK) (I : zI) (R : zR) (a0 : Nat)  : Nat → Int32 → Option Nat → Int32 → Int32 → Option (Int32)
  | 0, _, _, _, _ => none
  | t + 1, x2, x3, x4, x5 => g_X7_child_8 F K I R a0  (f_X7_child_8 F K I R a0  t) x2 x3 x4 x5
def f_X7_child (F : Nat) (K : zK) (I : zI) (R : zR) (a0 : Nat) (x1 : Int32) (x2 : Int32) (x3 : Option Nat) : Option (Int32) :=
  zbd (some (x1 + (1 : Int32))) fun v7 =>
  f_X7_child_8 F K I R a0 F x2 x3 v7 (0 : Int32)
section
variable {p : Program} {l : Launch} {e : Env} {s : State} {m : MethodId} {args : Array Value} {below : List Frame} {meth : Method} {c : Code} {D : zD} {B n n0 n' fd ld : Nat} {K K0 K' : zK} {I I' : zI} {R R' : zR} {H : Heap} {locs : List Loc} {ls : Array Slot} {r : Int32}
set_option maxRecDepth 100000 in
set_option maxHeartbeats 4000000 in
theorem wg_X7_child_8 {F : Nat} {a0 : Nat}  (X : zX p s m c cX7_child 6 RX7 D) (hr : meth.sig.returnType = some .int) (hlk : meth.locks = false) (hK0 : (K a0).1 = 17)  {kself : Int32 → Option Nat → Int32 → Int32 → Option (Int32)} (hkself : ∀ (x2 : Int32) (x3 : Option Nat) (x4 : Int32) (x5 : Int32) (H : Heap) (locs : List Loc) (ls : Array Slot), kself x2 x3 x4 x5 = some r → zS (zOwn B K (B + n)) D B n K I R s.heap H locs → lv_has ls 6 [(0, .ref (B + a0)), (2, .int x2), (3, zrf B x3), (4, .int x4), (5, .int x5)] → W p l e ({ frames := 1, cells := 0, slots := 0, locals := 40 } : Room) s m args below meth c H locs 0 0 (MQ below (zQi D (zOwn B K (B + n)) r B n K I R) args s 0 0 (zOwn B K (B + n))) (F0 m 8 ls [])) {x2 : Int32} {x3 : Option Nat} {x4 : Int32} {x5 : Int32} (hf : g_X7_child_8 F K I R a0  kself x2 x3 x4 x5 = some r) (hW : zS (zOwn B K (B + n)) D B n K I R s.heap H locs) (hl : lv_has ls 6 [(0, .ref (B + a0)), (2, .int x2), (3, zrf B x3), (4, .int x4), (5, .int x5)]) : W p l e ({ frames := 1, cells := 0, slots := 0, locals := 40 } : Room) s m args below meth c H locs 0 0 (MQ below (zQi D (zOwn B K (B + n)) r B n K I R) args s 0 0 (zOwn B K (B + n))) (F0 m 8 ls []) := by
  unfold g_X7_child_8 at hf
  refine lv_iload X.1 X.2.1 dX7_child_8 (lv_at hl 4 rfl) ?_
  refine lv_iload_n X.1 X.2.1 dX7_child_10 rfl (lv_at hl 1 rfl) ?_
  refine lv_icmp_ge (tgt := 29) X.1 X.2.1 dX7_child_11 (by decide) (fun c1 => ?_) (fun c1 => ?_)
  · replace hf := zif_pos c1 hf
    refine lv_iload X.1 X.2.1 dX7_child_29 (lv_at hl 3 rfl) ?_
    obtain rfl := zi1 hf
    exact ze_retI X hr hlk hW (Nat.le_refl _) (Nat.le_refl _) dX7_child_31
  · replace hf := zif_neg c1 hf
    refine lv_iload X.1 X.2.1 dX7_child_14 (lv_at hl 3 rfl) ?_
    refine ze_aload_n X.1 X.2.1 dX7_child_16 rfl (lv_at hl 2 rfl) ?_
    refine lv_iload X.1 X.2.1 dX7_child_17 (lv_at hl 3 rfl) ?_
    obtain ⟨a2, rfl, k4, hg⟩ := zh_dr hf
    replace hf := hg
    refine ze_iald X hf hW k4 dX7_child_19 (fun v5 hg => ?_)
    replace hf := hg
    refine lv_iadd X.1 X.2.1 dX7_child_20 ?_
    refine ze_nm hf (fun v6 hg => ?_)
    replace hf := hg
    refine lv_istore (lv' := [(4, .int v6), (0, .ref (B + a0)), (2, .int x2), (3, .ref (B + a2)), (5, .int x5)]) X.1 X.2.1 dX7_child_21 hl (by decide) rfl (fun ls hk => ?_)
    replace hl := hk
    refine ze_iinc (lv' := [(5, .int (x5 + (1 : Int32))), (4, .int v6), (0, .ref (B + a0)), (2, .int x2), (3, .ref (B + a2))]) (d := 1) X.1 X.2.1 dX7_child_23 hl (k := 4) rfl (by decide) (by decide) rfl (fun ls hk => ?_)
    replace hl := hk
    refine lv_goto (tgt := 8) X.1 X.2.1 dX7_child_26 (by decide) ?_
    exact hkself _ _ _ _ _ _ _ hf hW (lv_sub hl [2, 3, 4, 1, 0] rfl)
set_option maxRecDepth 100000 in
set_option maxHeartbeats 4000000 in
theorem w_X7_child_8 {F : Nat} {a0 : Nat}  (X : zX p s m c cX7_child 6 RX7 D) (hr : meth.sig.returnType = some .int) (hlk : meth.locks = false) (hK0 : (K a0).1 = 17)  {t : Nat} {x2 : Int32} {x3 : Option Nat} {x4 : Int32} {x5 : Int32} (hf : f_X7_child_8 F K I R a0  t x2 x3 x4 x5 = some r) (hW : zS (zOwn B K (B + n)) D B n K I R s.heap H locs) (hl : lv_has ls 6 [(0, .ref (B + a0)), (2, .int x2), (3, zrf B x3), (4, .int x4), (5, .int x5)]) : W p l e ({ frames := 1, cells := 0, slots := 0, locals := 40 } : Room) s m args below meth c H locs 0 0 (MQ below (zQi D (zOwn B K (B + n)) r B n K I R) args s 0 0 (zOwn B K (B + n))) (F0 m 8 ls []) := by
  have key : ∀ t : Nat, ∀ (x2 : Int32) (x3 : Option Nat) (x4 : Int32) (x5 : Int32) (H : Heap) (locs : List Loc) (ls : Array Slot), f_X7_child_8 F K I R a0  t x2 x3 x4 x5 = some r → zS (zOwn B K (B + n)) D B n K I R s.heap H locs → lv_has ls 6 [(0, .ref (B + a0)), (2, .int x2), (3, zrf B x3), (4, .int x4), (5, .int x5)] → W p l e ({ frames := 1, cells := 0, slots := 0, locals := 40 } : Room) s m args below meth c H locs 0 0 (MQ below (zQi D (zOwn B K (B + n)) r B n K I R) args s 0 0 (zOwn B K (B + n))) (F0 m 8 ls []) := by
    intro t
    induction t with
    | zero =>
      intro x2 x3 x4 x5 H locs ls hf hW hl
      cases hf
    | succ t ih =>
      intro x2 x3 x4 x5 H locs ls hf hW hl
      exact wg_X7_child_8 X hr hlk hK0  ih hf hW hl
  exact key t _ _ _ _ _ _ _ hf hW hl
set_option maxRecDepth 100000 in
set_option maxHeartbeats 4000000 in
theorem c_X7_child (l : Launch) (D : zD) (B n : Nat) {F : Nat} {K : zK} {I : zI} {R : zR} {a0 : Nat} {x1 : Int32} {x2 : Int32} {x3 : Option Nat} {r : Int32} (hK0 : (K a0).1 = 17) (hf : f_X7_child F K I R a0 x1 x2 x3 = some r) : zM l yX7_child cX7_child 6 (some .int) ({ frames := 1, cells := 0, slots := 0, locals := 40 } : Room) D B n K I R [.ref (B + a0), .int x1, .int x2, zrf B x3] (zQi D (zOwn B K (B + n)) r B n K I R) := by
  refine ze_entry (lv0 := [(0, .ref (B + a0)), (1, .int x1), (2, .int x2), (3, zrf B x3)]) (by decide) (by simp [lg_sl, zcat, zcat_i, zcat_r, zcat_l]) (by simp [lv_args, zcat, zcat_i, zcat_r, zcat_l]) (fun p e s m below meth c X hr hlk hin hW ls hl => ?_)
  unfold f_X7_child at hf
  refine lv_iload_n X.1 X.2.1 dX7_child_0 rfl (lv_at hl 1 rfl) ?_
  refine lv_iconst (v := 1) X.1 X.2.1 dX7_child_1 (by decide) ?_
  refine lv_iadd X.1 X.2.1 dX7_child_2 ?_
  refine ze_nm hf (fun v7 hg => ?_)
  replace hf := hg
  refine lv_istore (lv' := [(4, .int v7), (0, .ref (B + a0)), (1, .int x1), (2, .int x2), (3, zrf B x3)]) X.1 X.2.1 dX7_child_3 hl (by decide) (by first | rfl | (simp [zcat, zcat_i, zcat_r, zcat_l, zrf_some]; done) | (simp [zcat, zcat_i, zcat_r, zcat_l, zrf_some]; decide)) (fun ls hk => ?_)
  replace hl := hk
  refine lv_iconst (v := 0) X.1 X.2.1 dX7_child_5 (by decide) ?_
  refine lv_istore (lv' := [(5, .int (0 : Int32)), (4, .int v7), (0, .ref (B + a0)), (1, .int x1), (2, .int x2), (3, zrf B x3)]) X.1 X.2.1 dX7_child_6 hl (by decide) rfl (fun ls hk => ?_)
  replace hl := hk
  exact w_X7_child_8 X hr hlk hK0 hf hW (lv_sub hl [2, 4, 5, 1, 0] rfl)
end

/-! LeastPatternsModel.sequenceOf(II[I)I -/
def g_X7_sequenceOf_8 (F : Nat) (K : zK) (I : zI) (R : zR) (a0 : Nat)  (kself : Int32 → Int32 → Option Nat → Int32 → Int32 → Option (Int32)) (x1 : Int32) (x2 : Int32) (x3 : Option Nat) (x4 : Int32) (x5 : Int32) : Option (Int32) :=
  zbd (f_X7_arguments F K I R a0 x1 x2) fun v1 =>
  if v1 ≤ x5 then
    some (-9 : Int32)
  else
    zbd (f_X7_sort F K I R a0 x1 x4) fun v4 =>
    if v4 = (3 : Int32) then
      some x5
    else
      zbd (zdr K x3 1) fun a7 =>
      zbd (zrd K I a7 x4) fun v10 =>
      zbd (some (x4 + v10)) fun v11 =>
      kself x1 x2 (some a7) v11 (x5 + (1 : Int32))
def f_X7_sequenceOf_8 (F : Nat) (K : zK) (I : zI) (R : zR) (a0 : Nat)  : Nat → Int32 → Int32 → Option Nat → Int32 → Int32 → Option (Int32)
  | 0, _, _, _, _, _ => none
  | t + 1, x1, x2, x3, x4, x5 => g_X7_sequenceOf_8 F K I R a0  (f_X7_sequenceOf_8 F K I R a0  t) x1 x2 x3 x4 x5
def f_X7_sequenceOf (F : Nat) (K : zK) (I : zI) (R : zR) (a0 : Nat) (x1 : Int32) (x2 : Int32) (x3 : Option Nat) : Option (Int32) :=
  zbd (some (x2 + (1 : Int32))) fun v12 =>
  f_X7_sequenceOf_8 F K I R a0 F x1 x2 x3 v12 (0 : Int32)
section
variable {p : Program} {l : Launch} {e : Env} {s : State} {m : MethodId} {args : Array Value} {below : List Frame} {meth : Method} {c : Code} {D : zD} {B n n0 n' fd ld : Nat} {K K0 K' : zK} {I I' : zI} {R R' : zR} {H : Heap} {locs : List Loc} {ls : Array Slot} {r : Int32}
set_option maxRecDepth 100000 in
set_option maxHeartbeats 4000000 in
theorem wg_X7_sequenceOf_8 {F : Nat} {a0 : Nat}  (X : zX p s m c cX7_sequenceOf 6 RX7 D) (hr : meth.sig.returnType = some .int) (hlk : meth.locks = false) (hK0 : (K a0).1 = 17)  {kself : Int32 → Int32 → Option Nat → Int32 → Int32 → Option (Int32)} (hkself : ∀ (x1 : Int32) (x2 : Int32) (x3 : Option Nat) (x4 : Int32) (x5 : Int32) (H : Heap) (locs : List Loc) (ls : Array Slot), kself x1 x2 x3 x4 x5 = some r → zS (zOwn B K (B + n)) D B n K I R s.heap H locs → lv_has ls 6 [(0, .ref (B + a0)), (1, .int x1), (2, .int x2), (3, zrf B x3), (4, .int x4), (5, .int x5)] → W p l e ({ frames := 2, cells := 0, slots := 0, locals := 62 } : Room) s m args below meth c H locs 0 0 (MQ below (zQi D (zOwn B K (B + n)) r B n K I R) args s 0 0 (zOwn B K (B + n))) (F0 m 8 ls [])) {x1 : Int32} {x2 : Int32} {x3 : Option Nat} {x4 : Int32} {x5 : Int32} (hf : g_X7_sequenceOf_8 F K I R a0  kself x1 x2 x3 x4 x5 = some r) (hW : zS (zOwn B K (B + n)) D B n K I R s.heap H locs) (hl : lv_has ls 6 [(0, .ref (B + a0)), (1, .int x1), (2, .int x2), (3, zrf B x3), (4, .int x4), (5, .int x5)]) : W p l e ({ frames := 2, cells := 0, slots := 0, locals := 62 } : Room) s m args below meth c H locs 0 0 (MQ below (zQi D (zOwn B K (B + n)) r B n K I R) args s 0 0 (zOwn B K (B + n))) (F0 m 8 ls []) := by
  unfold g_X7_sequenceOf_8 at hf
  refine lv_iload X.1 X.2.1 dX7_sequenceOf_8 (lv_at hl 5 rfl) ?_
  refine lv_aload_n X.1 X.2.1 dX7_sequenceOf_10 rfl (lv_at hl 0 rfl) ?_
  refine lv_iload_n X.1 X.2.1 dX7_sequenceOf_11 rfl (lv_at hl 1 rfl) ?_
  refine lv_iload_n X.1 X.2.1 dX7_sequenceOf_12 rfl (lv_at hl 2 rfl) ?_
  obtain ⟨v1, h2, hg⟩ := zh_bd hf
  replace hf := hg
  refine ze_aftI0 (ze_runV (As := [.int x1, .int x2]) (rest := [.int x5]) X 7 111 (c_X7_arguments l D B n hK0 h2) vX7_arguments kml_X7_111 hW hK0 rfl rfl ⟨by decide, by decide⟩ rfl hl.1 rfl (Nat.le_of_ble_eq_true rfl) ⟨Nat.le_refl _, Nat.le_refl _⟩ dX7_sequenceOf_13) hW (fun H locs hV => ?_)
  replace hW := hV
  refine lv_icmp_ge (tgt := 48) X.1 X.2.1 dX7_sequenceOf_16 (by decide) (fun c3 => ?_) (fun c3 => ?_)
  · replace hf := zif_pos c3 hf
    refine lv_bipush (v := -9) X.1 X.2.1 dX7_sequenceOf_48 (by decide) ?_
    obtain rfl := zi1 hf
    exact ze_retI X hr hlk hW (Nat.le_refl _) (Nat.le_refl _) dX7_sequenceOf_50
  · replace hf := zif_neg c3 hf
    refine lv_aload_n X.1 X.2.1 dX7_sequenceOf_19 rfl (lv_at hl 0 rfl) ?_
    refine lv_iload_n X.1 X.2.1 dX7_sequenceOf_20 rfl (lv_at hl 1 rfl) ?_
    refine lv_iload X.1 X.2.1 dX7_sequenceOf_21 (lv_at hl 4 rfl) ?_
    obtain ⟨v4, h5, hg⟩ := zh_bd hf
    replace hf := hg
    refine ze_aftI0 (ze_runV (As := [.int x1, .int x4]) (rest := []) X 7 119 (c_X7_sort l D B n hK0 h5) vX7_sort kml_X7_119 hW hK0 rfl rfl ⟨by decide, by decide⟩ rfl hl.1 rfl (Nat.le_of_ble_eq_true rfl) ⟨Nat.le_refl _, Nat.le_refl _⟩ dX7_sequenceOf_23) hW (fun H locs hV => ?_)
    replace hW := hV
    refine lv_iconst (v := 3) X.1 X.2.1 dX7_sequenceOf_26 (by decide) ?_
    refine lv_icmp_ne (tgt := 33) X.1 X.2.1 dX7_sequenceOf_27 (by decide) (fun c6 => ?_) (fun c6 => ?_)
    · replace hf := zif_neg c6 hf
      refine lv_iload X.1 X.2.1 dX7_sequenceOf_33 (lv_at hl 4 rfl) ?_
      refine ze_aload_n X.1 X.2.1 dX7_sequenceOf_35 rfl (lv_at hl 3 rfl) ?_
      refine lv_iload X.1 X.2.1 dX7_sequenceOf_36 (lv_at hl 4 rfl) ?_
      obtain ⟨a7, rfl, k9, hg⟩ := zh_dr hf
      replace hf := hg
      refine ze_iald X hf hW k9 dX7_sequenceOf_38 (fun v10 hg => ?_)
      replace hf := hg
      refine lv_iadd X.1 X.2.1 dX7_sequenceOf_39 ?_
      refine ze_nm hf (fun v11 hg => ?_)
      replace hf := hg
      refine lv_istore (lv' := [(4, .int v11), (0, .ref (B + a0)), (1, .int x1), (2, .int x2), (3, .ref (B + a7)), (5, .int x5)]) X.1 X.2.1 dX7_sequenceOf_40 hl (by decide) rfl (fun ls hk => ?_)
      replace hl := hk
      refine ze_iinc (lv' := [(5, .int (x5 + (1 : Int32))), (4, .int v11), (0, .ref (B + a0)), (1, .int x1), (2, .int x2), (3, .ref (B + a7))]) (d := 1) X.1 X.2.1 dX7_sequenceOf_42 hl (k := 5) rfl (by decide) (by decide) rfl (fun ls hk => ?_)
      replace hl := hk
      refine lv_goto (tgt := 8) X.1 X.2.1 dX7_sequenceOf_45 (by decide) ?_
      exact hkself _ _ _ _ _ _ _ _ hf hW (lv_sub hl [2, 3, 4, 5, 1, 0] rfl)
    · replace hf := zif_pos c6 hf
      refine lv_iload X.1 X.2.1 dX7_sequenceOf_30 (lv_at hl 5 rfl) ?_
      obtain rfl := zi1 hf
      exact ze_retI X hr hlk hW (Nat.le_refl _) (Nat.le_refl _) dX7_sequenceOf_32
set_option maxRecDepth 100000 in
set_option maxHeartbeats 4000000 in
theorem w_X7_sequenceOf_8 {F : Nat} {a0 : Nat}  (X : zX p s m c cX7_sequenceOf 6 RX7 D) (hr : meth.sig.returnType = some .int) (hlk : meth.locks = false) (hK0 : (K a0).1 = 17)  {t : Nat} {x1 : Int32} {x2 : Int32} {x3 : Option Nat} {x4 : Int32} {x5 : Int32} (hf : f_X7_sequenceOf_8 F K I R a0  t x1 x2 x3 x4 x5 = some r) (hW : zS (zOwn B K (B + n)) D B n K I R s.heap H locs) (hl : lv_has ls 6 [(0, .ref (B + a0)), (1, .int x1), (2, .int x2), (3, zrf B x3), (4, .int x4), (5, .int x5)]) : W p l e ({ frames := 2, cells := 0, slots := 0, locals := 62 } : Room) s m args below meth c H locs 0 0 (MQ below (zQi D (zOwn B K (B + n)) r B n K I R) args s 0 0 (zOwn B K (B + n))) (F0 m 8 ls []) := by
  have key : ∀ t : Nat, ∀ (x1 : Int32) (x2 : Int32) (x3 : Option Nat) (x4 : Int32) (x5 : Int32) (H : Heap) (locs : List Loc) (ls : Array Slot), f_X7_sequenceOf_8 F K I R a0  t x1 x2 x3 x4 x5 = some r → zS (zOwn B K (B + n)) D B n K I R s.heap H locs → lv_has ls 6 [(0, .ref (B + a0)), (1, .int x1), (2, .int x2), (3, zrf B x3), (4, .int x4), (5, .int x5)] → W p l e ({ frames := 2, cells := 0, slots := 0, locals := 62 } : Room) s m args below meth c H locs 0 0 (MQ below (zQi D (zOwn B K (B + n)) r B n K I R) args s 0 0 (zOwn B K (B + n))) (F0 m 8 ls []) := by
    intro t
    induction t with
    | zero =>
      intro x1 x2 x3 x4 x5 H locs ls hf hW hl
      cases hf
    | succ t ih =>
      intro x1 x2 x3 x4 x5 H locs ls hf hW hl
      exact wg_X7_sequenceOf_8 X hr hlk hK0  ih hf hW hl
  exact key t _ _ _ _ _ _ _ _ hf hW hl
set_option maxRecDepth 100000 in
set_option maxHeartbeats 4000000 in
theorem c_X7_sequenceOf (l : Launch) (D : zD) (B n : Nat) {F : Nat} {K : zK} {I : zI} {R : zR} {a0 : Nat} {x1 : Int32} {x2 : Int32} {x3 : Option Nat} {r : Int32} (hK0 : (K a0).1 = 17) (hf : f_X7_sequenceOf F K I R a0 x1 x2 x3 = some r) : zM l yX7_sequenceOf cX7_sequenceOf 6 (some .int) ({ frames := 2, cells := 0, slots := 0, locals := 62 } : Room) D B n K I R [.ref (B + a0), .int x1, .int x2, zrf B x3] (zQi D (zOwn B K (B + n)) r B n K I R) := by
  refine ze_entry (lv0 := [(0, .ref (B + a0)), (1, .int x1), (2, .int x2), (3, zrf B x3)]) (by decide) (by simp [lg_sl, zcat, zcat_i, zcat_r, zcat_l]) (by simp [lv_args, zcat, zcat_i, zcat_r, zcat_l]) (fun p e s m below meth c X hr hlk hin hW ls hl => ?_)
  unfold f_X7_sequenceOf at hf
  refine lv_iload_n X.1 X.2.1 dX7_sequenceOf_0 rfl (lv_at hl 2 rfl) ?_
  refine lv_iconst (v := 1) X.1 X.2.1 dX7_sequenceOf_1 (by decide) ?_
  refine lv_iadd X.1 X.2.1 dX7_sequenceOf_2 ?_
  refine ze_nm hf (fun v12 hg => ?_)
  replace hf := hg
  refine lv_istore (lv' := [(4, .int v12), (0, .ref (B + a0)), (1, .int x1), (2, .int x2), (3, zrf B x3)]) X.1 X.2.1 dX7_sequenceOf_3 hl (by decide) (by first | rfl | (simp [zcat, zcat_i, zcat_r, zcat_l, zrf_some]; done) | (simp [zcat, zcat_i, zcat_r, zcat_l, zrf_some]; decide)) (fun ls hk => ?_)
  replace hl := hk
  refine lv_iconst (v := 0) X.1 X.2.1 dX7_sequenceOf_5 (by decide) ?_
  refine lv_istore (lv' := [(5, .int (0 : Int32)), (4, .int v12), (0, .ref (B + a0)), (1, .int x1), (2, .int x2), (3, zrf B x3)]) X.1 X.2.1 dX7_sequenceOf_6 hl (by decide) rfl (fun ls hk => ?_)
  replace hl := hk
  exact w_X7_sequenceOf_8 X hr hlk hK0 hf hW (lv_sub hl [2, 3, 4, 5, 1, 0] rfl)
end

/-! LeastPatternsModel.isSame(IIIII)Z -/
def f_X7_isSame_59 (F : Nat) (K : zK) (I : zI) (R : zR) (a0 : Nat) (k6 : Int32 → Int32 → Int32 → Int32 → Int32 → Int32 → Int32 → Option (Int32)) (x1 : Int32) (x2 : Int32) (x3 : Int32) (x4 : Int32) (x5 : Int32) (x7 : Int32) (s0 : Int32) : Option (Int32) :=
  k6 x1 x2 x3 x4 x5 s0 (x7 + (1 : Int32))
def g_X7_isSame_6 (F : Nat) (K : zK) (I : zI) (R : zR) (a0 : Nat)  (kself : Int32 → Int32 → Int32 → Int32 → Int32 → Int32 → Int32 → Option (Int32)) (x1 : Int32) (x2 : Int32) (x3 : Int32) (x4 : Int32) (x5 : Int32) (x6 : Int32) (x7 : Int32) : Option (Int32) :=
  if ((3 : Int32) * x5) ≤ x7 then
    if x6 = 0 ∨ x6 = 1 then
    some x6
    else
    none
  else
    if x6 = (0 : Int32) then
      if x6 = 0 ∨ x6 = 1 then
      some x6
      else
      none
    else
      zbd (some (R a0 0)) fun o5 =>
      zbd (zdr K o5 1) fun a6 =>
      zbd (zrd K I a6 (((x1 + (1 : Int32)) + ((3 : Int32) * x2)) + x7)) fun v9 =>
      zbd (some (R a0 0)) fun o10 =>
      zbd (zdr K o10 1) fun a11 =>
      zbd (zrd K I a11 (((x3 + (1 : Int32)) + ((3 : Int32) * x4)) + x7)) fun v14 =>
      if v9 = v14 then
        f_X7_isSame_59 F K I R a0 kself x1 x2 x3 x4 x5 x7 (1 : Int32)
      else
        f_X7_isSame_59 F K I R a0 kself x1 x2 x3 x4 x5 x7 (0 : Int32)
def f_X7_isSame_6 (F : Nat) (K : zK) (I : zI) (R : zR) (a0 : Nat)  : Nat → Int32 → Int32 → Int32 → Int32 → Int32 → Int32 → Int32 → Option (Int32)
  | 0, _, _, _, _, _, _, _ => none
  | t + 1, x1, x2, x3, x4, x5, x6, x7 => g_X7_isSame_6 F K I R a0  (f_X7_isSame_6 F K I R a0  t) x1 x2 x3 x4 x5 x6 x7
def f_X7_isSame (F : Nat) (K : zK) (I : zI) (R : zR) (a0 : Nat) (x1 : Int32) (x2 : Int32) (x3 : Int32) (x4 : Int32) (x5 : Int32) : Option (Int32) :=
  f_X7_isSame_6 F K I R a0 F x1 x2 x3 x4 x5 (1 : Int32) (0 : Int32)
section
variable {p : Program} {l : Launch} {e : Env} {s : State} {m : MethodId} {args : Array Value} {below : List Frame} {meth : Method} {c : Code} {D : zD} {B n n0 n' fd ld : Nat} {K K0 K' : zK} {I I' : zI} {R R' : zR} {H : Heap} {locs : List Loc} {ls : Array Slot} {r : Int32}
set_option maxRecDepth 100000 in
set_option maxHeartbeats 4000000 in
theorem w_X7_isSame_59 {F : Nat} {a0 : Nat} {k6 : Int32 → Int32 → Int32 → Int32 → Int32 → Int32 → Int32 → Option (Int32)} (X : zX p s m c cX7_isSame 8 RX7 D) (hr : meth.sig.returnType = some .boolean) (hlk : meth.locks = false) (hK0 : (K a0).1 = 17) (hk6 : ∀ (x1 : Int32) (x2 : Int32) (x3 : Int32) (x4 : Int32) (x5 : Int32) (x6 : Int32) (x7 : Int32) (H : Heap) (locs : List Loc) (ls : Array Slot), k6 x1 x2 x3 x4 x5 x6 x7 = some r → zS (zOwn B K (B + n)) D B n K I R s.heap H locs → lv_has ls 8 [(0, .ref (B + a0)), (1, .int x1), (2, .int x2), (3, .int x3), (4, .int x4), (5, .int x5), (6, .int x6), (7, .int x7)] → W p l e ({ frames := 1, cells := 0, slots := 0, locals := 40 } : Room) s m args below meth c H locs 0 0 (MQ below (zQi D (zOwn B K (B + n)) r B n K I R) args s 0 0 (zOwn B K (B + n))) (F0 m 6 ls [])) {x1 : Int32} {x2 : Int32} {x3 : Int32} {x4 : Int32} {x5 : Int32} {x7 : Int32} {s0 : Int32} (hf : f_X7_isSame_59 F K I R a0 k6 x1 x2 x3 x4 x5 x7 s0 = some r) (hW : zS (zOwn B K (B + n)) D B n K I R s.heap H locs) (hl : lv_has ls 8 [(0, .ref (B + a0)), (1, .int x1), (2, .int x2), (3, .int x3), (4, .int x4), (5, .int x5), (7, .int x7)]) : W p l e ({ frames := 1, cells := 0, slots := 0, locals := 40 } : Room) s m args below meth c H locs 0 0 (MQ below (zQi D (zOwn B K (B + n)) r B n K I R) args s 0 0 (zOwn B K (B + n))) (F0 m 59 ls [.int s0]) := by
  unfold f_X7_isSame_59 at hf
  refine lv_istore (lv' := [(6, .int s0), (0, .ref (B + a0)), (1, .int x1), (2, .int x2), (3, .int x3), (4, .int x4), (5, .int x5), (7, .int x7)]) X.1 X.2.1 dX7_isSame_59 hl (by decide) rfl (fun ls hk => ?_)
  replace hl := hk
  refine ze_iinc (lv' := [(7, .int (x7 + (1 : Int32))), (6, .int s0), (0, .ref (B + a0)), (1, .int x1), (2, .int x2), (3, .int x3), (4, .int x4), (5, .int x5)]) (d := 1) X.1 X.2.1 dX7_isSame_61 hl (k := 7) rfl (by decide) (by decide) rfl (fun ls hk => ?_)
  replace hl := hk
  refine lv_goto (tgt := 6) X.1 X.2.1 dX7_isSame_64 (by decide) ?_
  exact hk6 _ _ _ _ _ _ _ _ _ _ hf hW (lv_sub hl [2, 3, 4, 5, 6, 7, 1, 0] rfl)
set_option maxRecDepth 100000 in
set_option maxHeartbeats 4000000 in
theorem wg_X7_isSame_6 {F : Nat} {a0 : Nat}  (X : zX p s m c cX7_isSame 8 RX7 D) (hr : meth.sig.returnType = some .boolean) (hlk : meth.locks = false) (hK0 : (K a0).1 = 17)  {kself : Int32 → Int32 → Int32 → Int32 → Int32 → Int32 → Int32 → Option (Int32)} (hkself : ∀ (x1 : Int32) (x2 : Int32) (x3 : Int32) (x4 : Int32) (x5 : Int32) (x6 : Int32) (x7 : Int32) (H : Heap) (locs : List Loc) (ls : Array Slot), kself x1 x2 x3 x4 x5 x6 x7 = some r → zS (zOwn B K (B + n)) D B n K I R s.heap H locs → lv_has ls 8 [(0, .ref (B + a0)), (1, .int x1), (2, .int x2), (3, .int x3), (4, .int x4), (5, .int x5), (6, .int x6), (7, .int x7)] → W p l e ({ frames := 1, cells := 0, slots := 0, locals := 40 } : Room) s m args below meth c H locs 0 0 (MQ below (zQi D (zOwn B K (B + n)) r B n K I R) args s 0 0 (zOwn B K (B + n))) (F0 m 6 ls [])) {x1 : Int32} {x2 : Int32} {x3 : Int32} {x4 : Int32} {x5 : Int32} {x6 : Int32} {x7 : Int32} (hf : g_X7_isSame_6 F K I R a0  kself x1 x2 x3 x4 x5 x6 x7 = some r) (hW : zS (zOwn B K (B + n)) D B n K I R s.heap H locs) (hl : lv_has ls 8 [(0, .ref (B + a0)), (1, .int x1), (2, .int x2), (3, .int x3), (4, .int x4), (5, .int x5), (6, .int x6), (7, .int x7)]) : W p l e ({ frames := 1, cells := 0, slots := 0, locals := 40 } : Room) s m args below meth c H locs 0 0 (MQ below (zQi D (zOwn B K (B + n)) r B n K I R) args s 0 0 (zOwn B K (B + n))) (F0 m 6 ls []) := by
  unfold g_X7_isSame_6 at hf
  refine lv_iload X.1 X.2.1 dX7_isSame_6 (lv_at hl 7 rfl) ?_
  refine lv_iconst (v := 3) X.1 X.2.1 dX7_isSame_8 (by decide) ?_
  refine lv_iload X.1 X.2.1 dX7_isSame_9 (lv_at hl 5 rfl) ?_
  refine lv_imul X.1 X.2.1 dX7_isSame_11 ?_
  refine lv_icmp_ge (tgt := 67) X.1 X.2.1 dX7_isSame_12 (by decide) (fun c1 => ?_) (fun c1 => ?_)
  · replace hf := zif_pos c1 hf
    refine lv_iload X.1 X.2.1 dX7_isSame_67 (lv_at hl 6 rfl) ?_
    obtain ⟨hv2, hg⟩ := zh_if hf
    replace hf := hg
    obtain rfl := zi1 hf
    exact ze_retZ X hr hlk hv2 hW (Nat.le_refl _) (Nat.le_refl _) dX7_isSame_69
  · replace hf := zif_neg c1 hf
    refine lv_iload X.1 X.2.1 dX7_isSame_15 (lv_at hl 6 rfl) ?_
    refine lv_if_eq (tgt := 67) X.1 X.2.1 dX7_isSame_17 (by decide) (fun c3 => ?_) (fun c3 => ?_)
    · replace hf := zif_pos c3 hf
      refine lv_iload X.1 X.2.1 dX7_isSame_67 (lv_at hl 6 rfl) ?_
      obtain ⟨hv4, hg⟩ := zh_if hf
      replace hf := hg
      obtain rfl := zi1 hf
      exact ze_retZ X hr hlk hv4 hW (Nat.le_refl _) (Nat.le_refl _) dX7_isSame_69
    · replace hf := zif_neg c3 hf
      refine lv_aload_n X.1 X.2.1 dX7_isSame_20 rfl (lv_at hl 0 rfl) ?_
      refine ze_gtR X 7 0 7 (RX7, TX7, 39) rfl hf hW hK0 rfl (by decide) kfl_X7_7 dX7_isSame_21 (fun o5 hg => ?_)
      replace hf := hg
      refine lv_iload_n X.1 X.2.1 dX7_isSame_24 rfl (lv_at hl 1 rfl) ?_
      refine lv_iconst (v := 1) X.1 X.2.1 dX7_isSame_25 (by decide) ?_
      refine lv_iadd X.1 X.2.1 dX7_isSame_26 ?_
      refine lv_iconst (v := 3) X.1 X.2.1 dX7_isSame_27 (by decide) ?_
      refine lv_iload_n X.1 X.2.1 dX7_isSame_28 rfl (lv_at hl 2 rfl) ?_
      refine lv_imul X.1 X.2.1 dX7_isSame_29 ?_
      refine lv_iadd X.1 X.2.1 dX7_isSame_30 ?_
      refine lv_iload X.1 X.2.1 dX7_isSame_31 (lv_at hl 7 rfl) ?_
      refine lv_iadd X.1 X.2.1 dX7_isSame_33 ?_
      obtain ⟨a6, rfl, k8, hg⟩ := zh_dr hf
      replace hf := hg
      refine ze_iald X hf hW k8 dX7_isSame_34 (fun v9 hg => ?_)
      replace hf := hg
      refine lv_aload_n X.1 X.2.1 dX7_isSame_35 rfl (lv_at hl 0 rfl) ?_
      refine ze_gtR X 7 0 7 (RX7, TX7, 39) rfl hf hW hK0 rfl (by decide) kfl_X7_7 dX7_isSame_36 (fun o10 hg => ?_)
      replace hf := hg
      refine lv_iload_n X.1 X.2.1 dX7_isSame_39 rfl (lv_at hl 3 rfl) ?_
      refine lv_iconst (v := 1) X.1 X.2.1 dX7_isSame_40 (by decide) ?_
      refine lv_iadd X.1 X.2.1 dX7_isSame_41 ?_
      refine lv_iconst (v := 3) X.1 X.2.1 dX7_isSame_42 (by decide) ?_
      refine lv_iload X.1 X.2.1 dX7_isSame_43 (lv_at hl 4 rfl) ?_
      refine lv_imul X.1 X.2.1 dX7_isSame_45 ?_
      refine lv_iadd X.1 X.2.1 dX7_isSame_46 ?_
      refine lv_iload X.1 X.2.1 dX7_isSame_47 (lv_at hl 7 rfl) ?_
      refine lv_iadd X.1 X.2.1 dX7_isSame_49 ?_
      obtain ⟨a11, rfl, k13, hg⟩ := zh_dr hf
      replace hf := hg
      refine ze_iald X hf hW k13 dX7_isSame_50 (fun v14 hg => ?_)
      replace hf := hg
      refine lv_icmp_ne (tgt := 58) X.1 X.2.1 dX7_isSame_51 (by decide) (fun c15 => ?_) (fun c15 => ?_)
      · replace hf := zif_neg c15 hf
        refine lv_iconst (v := 0) X.1 X.2.1 dX7_isSame_58 (by decide) ?_
        exact w_X7_isSame_59 X hr hlk hK0 hkself hf hW (lv_sub hl [0, 1, 2, 3, 4, 5, 7] rfl)
      · replace hf := zif_pos c15 hf
        refine lv_iconst (v := 1) X.1 X.2.1 dX7_isSame_54 (by decide) ?_
        refine lv_goto (tgt := 59) X.1 X.2.1 dX7_isSame_55 (by decide) ?_
        exact w_X7_isSame_59 X hr hlk hK0 hkself hf hW (lv_sub hl [0, 1, 2, 3, 4, 5, 7] rfl)
set_option maxRecDepth 100000 in
set_option maxHeartbeats 4000000 in
theorem w_X7_isSame_6 {F : Nat} {a0 : Nat}  (X : zX p s m c cX7_isSame 8 RX7 D) (hr : meth.sig.returnType = some .boolean) (hlk : meth.locks = false) (hK0 : (K a0).1 = 17)  {t : Nat} {x1 : Int32} {x2 : Int32} {x3 : Int32} {x4 : Int32} {x5 : Int32} {x6 : Int32} {x7 : Int32} (hf : f_X7_isSame_6 F K I R a0  t x1 x2 x3 x4 x5 x6 x7 = some r) (hW : zS (zOwn B K (B + n)) D B n K I R s.heap H locs) (hl : lv_has ls 8 [(0, .ref (B + a0)), (1, .int x1), (2, .int x2), (3, .int x3), (4, .int x4), (5, .int x5), (6, .int x6), (7, .int x7)]) : W p l e ({ frames := 1, cells := 0, slots := 0, locals := 40 } : Room) s m args below meth c H locs 0 0 (MQ below (zQi D (zOwn B K (B + n)) r B n K I R) args s 0 0 (zOwn B K (B + n))) (F0 m 6 ls []) := by
  have key : ∀ t : Nat, ∀ (x1 : Int32) (x2 : Int32) (x3 : Int32) (x4 : Int32) (x5 : Int32) (x6 : Int32) (x7 : Int32) (H : Heap) (locs : List Loc) (ls : Array Slot), f_X7_isSame_6 F K I R a0  t x1 x2 x3 x4 x5 x6 x7 = some r → zS (zOwn B K (B + n)) D B n K I R s.heap H locs → lv_has ls 8 [(0, .ref (B + a0)), (1, .int x1), (2, .int x2), (3, .int x3), (4, .int x4), (5, .int x5), (6, .int x6), (7, .int x7)] → W p l e ({ frames := 1, cells := 0, slots := 0, locals := 40 } : Room) s m args below meth c H locs 0 0 (MQ below (zQi D (zOwn B K (B + n)) r B n K I R) args s 0 0 (zOwn B K (B + n))) (F0 m 6 ls []) := by
    intro t
    induction t with
    | zero =>
      intro x1 x2 x3 x4 x5 x6 x7 H locs ls hf hW hl
      cases hf
    | succ t ih =>
      intro x1 x2 x3 x4 x5 x6 x7 H locs ls hf hW hl
      exact wg_X7_isSame_6 X hr hlk hK0  ih hf hW hl
  exact key t _ _ _ _ _ _ _ _ _ _ hf hW hl
set_option maxRecDepth 100000 in
set_option maxHeartbeats 4000000 in
theorem c_X7_isSame (l : Launch) (D : zD) (B n : Nat) {F : Nat} {K : zK} {I : zI} {R : zR} {a0 : Nat} {x1 : Int32} {x2 : Int32} {x3 : Int32} {x4 : Int32} {x5 : Int32} {r : Int32} (hK0 : (K a0).1 = 17) (hf : f_X7_isSame F K I R a0 x1 x2 x3 x4 x5 = some r) : zM l yX7_isSame cX7_isSame 8 (some .boolean) ({ frames := 1, cells := 0, slots := 0, locals := 40 } : Room) D B n K I R [.ref (B + a0), .int x1, .int x2, .int x3, .int x4, .int x5] (zQi D (zOwn B K (B + n)) r B n K I R) := by
  refine ze_entry (lv0 := [(0, .ref (B + a0)), (1, .int x1), (2, .int x2), (3, .int x3), (4, .int x4), (5, .int x5)]) (by decide) (by simp [lg_sl, zcat, zcat_i, zcat_r, zcat_l]) (by simp [lv_args, zcat, zcat_i, zcat_r, zcat_l]) (fun p e s m below meth c X hr hlk hin hW ls hl => ?_)
  unfold f_X7_isSame at hf
  refine lv_iconst (v := 1) X.1 X.2.1 dX7_isSame_0 (by decide) ?_
  refine lv_istore (lv' := [(6, .int (1 : Int32)), (0, .ref (B + a0)), (1, .int x1), (2, .int x2), (3, .int x3), (4, .int x4), (5, .int x5)]) X.1 X.2.1 dX7_isSame_1 hl (by decide) rfl (fun ls hk => ?_)
  replace hl := hk
  refine lv_iconst (v := 0) X.1 X.2.1 dX7_isSame_3 (by decide) ?_
  refine lv_istore (lv' := [(7, .int (0 : Int32)), (6, .int (1 : Int32)), (0, .ref (B + a0)), (1, .int x1), (2, .int x2), (3, .int x3), (4, .int x4), (5, .int x5)]) X.1 X.2.1 dX7_isSame_4 hl (by decide) rfl (fun ls hk => ?_)
  replace hl := hk
  exact w_X7_isSame_6 X hr hlk hK0 hf hW (lv_sub hl [2, 3, 4, 5, 6, 7, 1, 0] rfl)
end

/-! LeastPatternsModel.type(I)I -/
def f_X7_type (F : Nat) (K : zK) (I : zI) (R : zR) (a0 : Nat) (x1 : Int32) : Option (Int32 × zI) :=
  zbd (f_X7_in F K I R x1 (33 : Int32) (126 : Int32)) fun v1 =>
  if v1 = (0 : Int32) then
    some ((-1 : Int32), I)
  else
    if (I a0 3) = (80 : Int32) then
      some ((-3 : Int32), I)
    else
      zbd (some (R a0 2)) fun o5 =>
      zbd (zdr K o5 1) fun a6 =>
      zbd (zwr K I a6 (I a0 3) x1) fun I9 =>
      zbd (some (zup I9 a0 3 ((I9 a0 3) + (1 : Int32)))) fun I10 =>
      some (I10 a0 3, I10)
section
variable {p : Program} {l : Launch} {e : Env} {s : State} {m : MethodId} {args : Array Value} {below : List Frame} {meth : Method} {c : Code} {D : zD} {B n n0 n' fd ld : Nat} {K K0 K' : zK} {I I' : zI} {R R' : zR} {H : Heap} {locs : List Loc} {ls : Array Slot} {r : Int32}
set_option maxRecDepth 100000 in
set_option maxHeartbeats 4000000 in
theorem c_X7_type (l : Launch) (D : zD) (B n : Nat) {F : Nat} {K : zK} {I : zI} {R : zR} {a0 : Nat} {x1 : Int32} {r : Int32} {I' : zI} (hK0 : (K a0).1 = 17) (hf : f_X7_type F K I R a0 x1 = some (r, I')) : zM l yX7_type cX7_type 2 (some .int) ({ frames := 2, cells := 0, slots := 0, locals := 62 } : Room) D B n K I R [.ref (B + a0), .int x1] (zQi D (zOwn B K (B + n)) r B n K I' R) := by
  refine ze_entry (lv0 := [(0, .ref (B + a0)), (1, .int x1)]) (by decide) (by simp [lg_sl, zcat, zcat_i, zcat_r, zcat_l]) (by simp [lv_args, zcat, zcat_i, zcat_r, zcat_l]) (fun p e s m below meth c X hr hlk hin hW ls hl => ?_)
  unfold f_X7_type at hf
  refine lv_iload_n X.1 X.2.1 dX7_type_0 rfl (lv_at hl 1 rfl) ?_
  refine lv_bipush (v := 33) X.1 X.2.1 dX7_type_1 (by decide) ?_
  refine lv_bipush (v := 126) X.1 X.2.1 dX7_type_3 (by decide) ?_
  obtain ⟨v1, h2, hg⟩ := zh_bd hf
  replace hf := hg
  refine ze_aftI0 (ze_runS (As := [.int x1, .int (33 : Int32), .int (126 : Int32)]) (rest := []) X 122 (c_X7_in l D B n h2) vX7_in kml_X7_122 hW ⟨by decide, by decide⟩ rfl hl.1 rfl (Nat.le_of_ble_eq_true rfl) ⟨Nat.le_refl _, Nat.le_refl _⟩ dX7_type_5) hW (fun H locs hV => ?_)
  replace hW := hV
  refine lv_if_ne (tgt := 13) X.1 X.2.1 dX7_type_8 (by decide) (fun c3 => ?_) (fun c3 => ?_)
  · replace hf := zif_neg c3 hf
    refine lv_aload_n X.1 X.2.1 dX7_type_13 rfl (lv_at hl 0 rfl) ?_
    refine ze_getI X 7 3 126 (RX7, TX7, 39) rfl hW hK0 rfl (by decide) kfl_X7_126 dX7_type_14 ?_
    refine lv_bipush (v := 80) X.1 X.2.1 dX7_type_17 (by decide) ?_
    refine lv_icmp_ne (tgt := 25) X.1 X.2.1 dX7_type_19 (by decide) (fun c4 => ?_) (fun c4 => ?_)
    · replace hf := zif_neg c4 hf
      refine lv_aload_n X.1 X.2.1 dX7_type_25 rfl (lv_at hl 0 rfl) ?_
      refine ze_gtR X 7 2 13 (RX7, TX7, 39) rfl hf hW hK0 rfl (by decide) kfl_X7_13 dX7_type_26 (fun o5 hg => ?_)
      replace hf := hg
      refine lv_aload_n X.1 X.2.1 dX7_type_29 rfl (lv_at hl 0 rfl) ?_
      refine ze_getI X 7 3 126 (RX7, TX7, 39) rfl hW hK0 rfl (by decide) kfl_X7_126 dX7_type_30 ?_
      refine lv_iload_n X.1 X.2.1 dX7_type_33 rfl (lv_at hl 1 rfl) ?_
      obtain ⟨a6, rfl, k8, hg⟩ := zh_dr hf
      replace hf := hg
      refine ze_iast X hf hW k8 dX7_type_34 (fun I9 H locs hg hV => ?_)
      replace hf := hg
      replace hW := hV
      refine lv_aload_n X.1 X.2.1 dX7_type_35 rfl (lv_at hl 0 rfl) ?_
      refine lv_dup X.1 X.2.1 dX7_type_36 rfl ?_
      refine ze_getI X 7 3 126 (RX7, TX7, 39) rfl hW hK0 rfl (by decide) kfl_X7_126 dX7_type_37 ?_
      refine lv_iconst (v := 1) X.1 X.2.1 dX7_type_40 (by decide) ?_
      refine lv_iadd X.1 X.2.1 dX7_type_41 ?_
      refine ze_putI X 7 3 126 (RX7, TX7, 39) rfl hf hW hK0 rfl (by decide) kfl_X7_126 rfl (by decide +kernel) dX7_type_42 (fun I10 H locs hg hV => ?_)
      replace hf := hg
      replace hW := hV
      refine lv_aload_n X.1 X.2.1 dX7_type_45 rfl (lv_at hl 0 rfl) ?_
      refine ze_getI X 7 3 126 (RX7, TX7, 39) rfl hW hK0 rfl (by decide) kfl_X7_126 dX7_type_46 ?_
      obtain ⟨rfl, rfl⟩ := zi2 hf
      exact ze_retI X hr hlk hW (Nat.le_refl _) (Nat.le_refl _) dX7_type_49
    · replace hf := zif_pos c4 hf
      refine lv_bipush (v := -3) X.1 X.2.1 dX7_type_22 (by decide) ?_
      obtain ⟨rfl, rfl⟩ := zi2 hf
      exact ze_retI X hr hlk hW (Nat.le_refl _) (Nat.le_refl _) dX7_type_24
  · replace hf := zif_pos c3 hf
    refine lv_iconst (v := -1) X.1 X.2.1 dX7_type_11 (by decide) ?_
    obtain ⟨rfl, rfl⟩ := zi2 hf
    exact ze_retI X hr hlk hW (Nat.le_refl _) (Nat.le_refl _) dX7_type_12
end

/-! LeastPatternsModel.clear()I -/
def f_X7_clear (F : Nat) (K : zK) (I : zI) (R : zR) (a0 : Nat)  : Option (Int32 × zI) :=
  zbd (some (I a0 3)) fun v1 =>
  zbd (some (zup I a0 3 (0 : Int32))) fun I2 =>
  some (v1, I2)
section
variable {p : Program} {l : Launch} {e : Env} {s : State} {m : MethodId} {args : Array Value} {below : List Frame} {meth : Method} {c : Code} {D : zD} {B n n0 n' fd ld : Nat} {K K0 K' : zK} {I I' : zI} {R R' : zR} {H : Heap} {locs : List Loc} {ls : Array Slot} {r : Int32}
set_option maxRecDepth 100000 in
set_option maxHeartbeats 4000000 in
theorem c_X7_clear (l : Launch) (D : zD) (B n : Nat) {F : Nat} {K : zK} {I : zI} {R : zR} {a0 : Nat}  {r : Int32} {I' : zI} (hK0 : (K a0).1 = 17) (hf : f_X7_clear F K I R a0  = some (r, I')) : zM l yX7_clear cX7_clear 2 (some .int) ({ frames := 1, cells := 0, slots := 0, locals := 40 } : Room) D B n K I R [.ref (B + a0)] (zQi D (zOwn B K (B + n)) r B n K I' R) := by
  refine ze_entry (lv0 := [(0, .ref (B + a0))]) (by decide) (by simp [lg_sl, zcat, zcat_i, zcat_r, zcat_l]) (by simp [lv_args, zcat, zcat_i, zcat_r, zcat_l]) (fun p e s m below meth c X hr hlk hin hW ls hl => ?_)
  unfold f_X7_clear at hf
  refine lv_aload_n X.1 X.2.1 dX7_clear_0 rfl (lv_at hl 0 rfl) ?_
  refine ze_getI X 7 3 126 (RX7, TX7, 39) rfl hW hK0 rfl (by decide) kfl_X7_126 dX7_clear_1 ?_
  refine ze_nm hf (fun v1 hg => ?_)
  replace hf := hg
  refine lv_istore_n (i := 1) (lv' := [(1, .int v1), (0, .ref (B + a0))]) X.1 X.2.1 dX7_clear_4 rfl hl (by decide) rfl (fun ls hk => ?_)
  replace hl := hk
  refine lv_aload_n X.1 X.2.1 dX7_clear_5 rfl (lv_at hl 1 rfl) ?_
  refine lv_iconst (v := 0) X.1 X.2.1 dX7_clear_6 (by decide) ?_
  refine ze_putI X 7 3 126 (RX7, TX7, 39) rfl hf hW hK0 rfl (by decide) kfl_X7_126 rfl (by decide +kernel) dX7_clear_7 (fun I2 H locs hg hV => ?_)
  replace hf := hg
  replace hW := hV
  refine lv_iload_n X.1 X.2.1 dX7_clear_10 rfl (lv_at hl 0 rfl) ?_
  obtain ⟨rfl, rfl⟩ := zi2 hf
  exact ze_retI X hr hlk hW (Nat.le_refl _) (Nat.le_refl _) dX7_clear_11
end

/-! LeastPatternsModel.byteAt(I)I -/
def f_X7_byteAt (F : Nat) (K : zK) (I : zI) (R : zR) (a0 : Nat) (x1 : Int32) : Option (Int32) :=
  if (I a0 3) ≤ x1 then
    some (-9 : Int32)
  else
    zbd (some (R a0 2)) fun o2 =>
    zbd (zdr K o2 1) fun a3 =>
    zbd (zrd K I a3 x1) fun v6 =>
    some v6
section
variable {p : Program} {l : Launch} {e : Env} {s : State} {m : MethodId} {args : Array Value} {below : List Frame} {meth : Method} {c : Code} {D : zD} {B n n0 n' fd ld : Nat} {K K0 K' : zK} {I I' : zI} {R R' : zR} {H : Heap} {locs : List Loc} {ls : Array Slot} {r : Int32}
set_option maxRecDepth 100000 in
set_option maxHeartbeats 4000000 in
theorem c_X7_byteAt (l : Launch) (D : zD) (B n : Nat) {F : Nat} {K : zK} {I : zI} {R : zR} {a0 : Nat} {x1 : Int32} {r : Int32} (hK0 : (K a0).1 = 17) (hf : f_X7_byteAt F K I R a0 x1 = some r) : zM l yX7_byteAt cX7_byteAt 2 (some .int) ({ frames := 1, cells := 0, slots := 0, locals := 40 } : Room) D B n K I R [.ref (B + a0), .int x1] (zQi D (zOwn B K (B + n)) r B n K I R) := by
  refine ze_entry (lv0 := [(0, .ref (B + a0)), (1, .int x1)]) (by decide) (by simp [lg_sl, zcat, zcat_i, zcat_r, zcat_l]) (by simp [lv_args, zcat, zcat_i, zcat_r, zcat_l]) (fun p e s m below meth c X hr hlk hin hW ls hl => ?_)
  unfold f_X7_byteAt at hf
  refine lv_iload_n X.1 X.2.1 dX7_byteAt_0 rfl (lv_at hl 1 rfl) ?_
  refine lv_aload_n X.1 X.2.1 dX7_byteAt_1 rfl (lv_at hl 0 rfl) ?_
  refine ze_getI X 7 3 126 (RX7, TX7, 39) rfl hW hK0 rfl (by decide) kfl_X7_126 dX7_byteAt_2 ?_
  refine lv_icmp_ge (tgt := 17) X.1 X.2.1 dX7_byteAt_5 (by decide) (fun c1 => ?_) (fun c1 => ?_)
  · replace hf := zif_pos c1 hf
    refine lv_bipush (v := -9) X.1 X.2.1 dX7_byteAt_17 (by decide) ?_
    obtain rfl := zi1 hf
    exact ze_retI X hr hlk hW (Nat.le_refl _) (Nat.le_refl _) dX7_byteAt_19
  · replace hf := zif_neg c1 hf
    refine lv_aload_n X.1 X.2.1 dX7_byteAt_8 rfl (lv_at hl 0 rfl) ?_
    refine ze_gtR X 7 2 13 (RX7, TX7, 39) rfl hf hW hK0 rfl (by decide) kfl_X7_13 dX7_byteAt_9 (fun o2 hg => ?_)
    replace hf := hg
    refine lv_iload_n X.1 X.2.1 dX7_byteAt_12 rfl (lv_at hl 1 rfl) ?_
    obtain ⟨a3, rfl, k5, hg⟩ := zh_dr hf
    replace hf := hg
    refine ze_iald X hf hW k5 dX7_byteAt_13 (fun v6 hg => ?_)
    replace hf := hg
    refine lv_goto (tgt := 19) X.1 X.2.1 dX7_byteAt_14 (by decide) ?_
    obtain rfl := zi1 hf
    exact ze_retI X hr hlk hW (Nat.le_refl _) (Nat.le_refl _) dX7_byteAt_19
end

/-! LeastPatternsModel.faults(II)Z -/
def f_X7_faults (F : Nat) (K : zK) (I : zI) (R : zR) (a0 : Nat) (x1 : Int32) (x2 : Int32) : Option (Int32 × zI) :=
  zbd (some (zup I a0 4 x1)) fun I1 =>
  zbd (some (zup I1 a0 13 x2)) fun I2 =>
  some ((0 : Int32), I2)
section
variable {p : Program} {l : Launch} {e : Env} {s : State} {m : MethodId} {args : Array Value} {below : List Frame} {meth : Method} {c : Code} {D : zD} {B n n0 n' fd ld : Nat} {K K0 K' : zK} {I I' : zI} {R R' : zR} {H : Heap} {locs : List Loc} {ls : Array Slot} {r : Int32}
set_option maxRecDepth 100000 in
set_option maxHeartbeats 4000000 in
theorem c_X7_faults (l : Launch) (D : zD) (B n : Nat) {F : Nat} {K : zK} {I : zI} {R : zR} {a0 : Nat} {x1 : Int32} {x2 : Int32} {r : Int32} {I' : zI} (hK0 : (K a0).1 = 17) (hf : f_X7_faults F K I R a0 x1 x2 = some (r, I')) : zM l yX7_faults cX7_faults 3 (some .boolean) ({ frames := 1, cells := 0, slots := 0, locals := 40 } : Room) D B n K I R [.ref (B + a0), .int x1, .int x2] (zQi D (zOwn B K (B + n)) r B n K I' R) := by
  refine ze_entry (lv0 := [(0, .ref (B + a0)), (1, .int x1), (2, .int x2)]) (by decide) (by simp [lg_sl, zcat, zcat_i, zcat_r, zcat_l]) (by simp [lv_args, zcat, zcat_i, zcat_r, zcat_l]) (fun p e s m below meth c X hr hlk hin hW ls hl => ?_)
  unfold f_X7_faults at hf
  refine lv_aload_n X.1 X.2.1 dX7_faults_0 rfl (lv_at hl 0 rfl) ?_
  refine lv_iload_n X.1 X.2.1 dX7_faults_1 rfl (lv_at hl 1 rfl) ?_
  refine ze_putI X 7 4 16 (RX7, TX7, 39) rfl hf hW hK0 rfl (by decide) kfl_X7_16 rfl (by decide +kernel) dX7_faults_2 (fun I1 H locs hg hV => ?_)
  replace hf := hg
  replace hW := hV
  refine lv_aload_n X.1 X.2.1 dX7_faults_5 rfl (lv_at hl 0 rfl) ?_
  refine lv_iload_n X.1 X.2.1 dX7_faults_6 rfl (lv_at hl 2 rfl) ?_
  refine ze_putI X 7 13 129 (RX7, TX7, 39) rfl hf hW hK0 rfl (by decide) kfl_X7_129 rfl (by decide +kernel) dX7_faults_7 (fun I2 H locs hg hV => ?_)
  replace hf := hg
  replace hW := hV
  refine lv_iconst (v := 0) X.1 X.2.1 dX7_faults_10 (by decide) ?_
  obtain ⟨rfl, rfl⟩ := zi2 hf
  exact ze_retZ X hr hlk (by decide) hW (Nat.le_refl _) (Nat.le_refl _) dX7_faults_11
end

/-! LeastPatternsModel.begins()Z -/
def f_X7_begins_359 (F : Nat) (K : zK) (R : zR) (a0 : Nat)  (I : zI) (x4 : Int32) (s0 : Option Nat) (s1 : Int32) (s2 : Int32) : Option (Int32 × zI) :=
  zbd (zdr K s0 17) fun a1 =>
  zbd (some (zup I a1 13 (s1 + s2))) fun I4 =>
  zbd (f_X7_byteAt F K I4 R a0 (I4 a0 13)) fun v5 =>
  if v5 = (40 : Int32) then
    if x4 = (3 : Int32) then
      some ((1 : Int32), I4)
    else
      zbd (some (zup I4 a0 12 ((I4 a0 12) + (1 : Int32)))) fun I9 =>
      zbd (some (R a0 10)) fun o10 =>
      zbd (some (R a0 0)) fun o11 =>
      zbd (zdr K o11 1) fun a12 =>
      zbd (zrd K I9 a12 (5460 : Int32)) fun v15 =>
      zbd (zdr K o10 1) fun a16 =>
      zbd (zwr K I9 a16 (I9 a0 12) (v15 - (1 : Int32))) fun I19 =>
      zbd (some (R a0 11)) fun o20 =>
      zbd (zdr K o20 2) fun a21 =>
      zbd (zwrZ K I19 a21 (I19 a0 12) (0 : Int32)) fun I24 =>
      zbd (some (zup I24 a0 13 ((I24 a0 13) + (1 : Int32)))) fun I25 =>
      zbd (some (zup I25 a0 14 (1 : Int32))) fun I26 =>
      some ((1 : Int32), I26)
  else
    some ((1 : Int32), I4)
def f_X7_begins_343 (F : Nat) (K : zK) (R : zR) (a0 : Nat)  (I : zI) (x4 : Int32) : Option (Int32 × zI) :=
  if x4 = (3 : Int32) then
    f_X7_begins_359 F K R a0 I x4 (some a0) (I a0 13) (2 : Int32)
  else
    f_X7_begins_359 F K R a0 I x4 (some a0) (I a0 13) (1 : Int32)
def f_X7_begins_296 (F : Nat) (K : zK) (R : zR) (a0 : Nat)  (I : zI) (x4 : Int32) (s0 : Option Nat) (s1 : Int32) (s2 : Int32) (s3 : Int32) (s4 : Int32) : Option (Int32 × zI) :=
  zbd (zdr K s0 17) fun a28 =>
  zbd (f_X7_writes F K I R a28 s1 s2 s3 s4 (0 : Int32)) fun I31 =>
  zbd (some (R a0 0)) fun o33 =>
  zbd (zdr K o33 1) fun a34 =>
  zbd (zrd K I31 a34 (5460 : Int32)) fun v37 =>
  zbd (zwr K I31 a34 (5460 : Int32) (v37 + (1 : Int32))) fun I38 =>
  if (I38 a0 12) ≤ (0 : Int32) then
    f_X7_begins_343 F K R a0 I38 x4
  else
    zbd (some (R a0 0)) fun o40 =>
    zbd (some (R a0 10)) fun o41 =>
    zbd (zdr K o41 1) fun a42 =>
    zbd (zrd K I38 a42 (I38 a0 12)) fun v45 =>
    zbd (zdr K o40 1) fun a46 =>
    zbd (zrd K I38 a46 ((5463 : Int32) + ((3 : Int32) * v45))) fun v49 =>
    zbd (zwr K I38 a46 ((5463 : Int32) + ((3 : Int32) * v45)) (v49 + (1 : Int32))) fun I50 =>
    f_X7_begins_343 F K R a0 I50 x4
def f_X7_begins_266 (F : Nat) (K : zK) (R : zR) (a0 : Nat)  (I : zI) (x1 : Int32) (x2 : Int32) (x4 : Int32) (s0 : Option Nat) (s1 : Int32) (s2 : Int32) : Option (Int32 × zI) :=
  zbd (zdr K s0 2) fun a51 =>
  zbd (zwrZ K I a51 s1 s2) fun I54 =>
  zbd (some (R a0 0)) fun o55 =>
  zbd (zdr K o55 1) fun a56 =>
  zbd (zrd K I54 a56 (5460 : Int32)) fun v59 =>
  if x2 = (0 : Int32) then
    f_X7_begins_296 F K R a0 I54 x4 (some a0) (5460 : Int32) v59 x4 (x1 - (97 : Int32))
  else
    f_X7_begins_296 F K R a0 I54 x4 (some a0) (5460 : Int32) v59 x4 (x1 - (48 : Int32))
def f_X7_begins_261 (F : Nat) (K : zK) (R : zR) (a0 : Nat)  (I : zI) (x1 : Int32) (x2 : Int32) (x4 : Int32) (s0 : Option Nat) (s1 : Int32) : Option (Int32 × zI) :=
  f_X7_begins_266 F K R a0 I x1 x2 x4 s0 s1 (1 : Int32)
def f_X7_begins_235 (F : Nat) (K : zK) (R : zR) (a0 : Nat)  (I : zI) (x1 : Int32) (x2 : Int32) (x4 : Int32) : Option (Int32 × zI) :=
  zbd (some (R a0 11)) fun o61 =>
  zbd (some (R a0 11)) fun o62 =>
  zbd (zdr K o62 2) fun a63 =>
  zbd (zrd K I a63 (I a0 12)) fun v66 =>
  if v66 = (0 : Int32) then
    if x4 = (3 : Int32) then
      f_X7_begins_261 F K R a0 I x1 x2 x4 o61 (I a0 12)
    else
      f_X7_begins_266 F K R a0 I x1 x2 x4 o61 (I a0 12) (0 : Int32)
  else
    f_X7_begins_261 F K R a0 I x1 x2 x4 o61 (I a0 12)
def f_X7_begins_220 (F : Nat) (K : zK) (R : zR) (a0 : Nat)  (I : zI) (x1 : Int32) (x2 : Int32) (x4 : Int32) : Option (Int32 × zI) :=
  if x2 = (0 : Int32) then
    f_X7_begins_235 F K R a0 I x1 x2 x4
  else
    zbd (some (R a0 9)) fun o70 =>
    zbd (zdr K o70 1) fun a71 =>
    zbd (zwr K I a71 (x1 - (48 : Int32)) x4) fun I74 =>
    f_X7_begins_235 F K R a0 I74 x1 x2 x4
def f_X7_begins_210 (F : Nat) (K : zK) (R : zR) (a0 : Nat)  (I : zI) : Option (Int32 × zI) :=
  zbd2 (f_X7_faults F K I R a0 (4 : Int32) (I a0 13)) fun v75 I76 =>
  if v75 = 0 ∨ v75 = 1 then
  some (v75, I76)
  else
  none
def f_X7_begins_192 (F : Nat) (K : zK) (R : zR) (a0 : Nat)  (I : zI) (x1 : Int32) (x2 : Int32) (x4 : Int32) : Option (Int32 × zI) :=
  if x4 = (3 : Int32) then
    zbd (some (R a0 11)) fun o80 =>
    zbd (zdr K o80 2) fun a81 =>
    zbd (zrd K I a81 (I a0 12)) fun v84 =>
    if v84 = (0 : Int32) then
      f_X7_begins_220 F K R a0 I x1 x2 x4
    else
      f_X7_begins_210 F K R a0 I
  else
    f_X7_begins_220 F K R a0 I x1 x2 x4
def f_X7_begins_160 (F : Nat) (K : zK) (R : zR) (a0 : Nat)  (I : zI) (x1 : Int32) (x2 : Int32) (s0 : Int32) : Option (Int32 × zI) :=
  if x2 = (0 : Int32) then
    f_X7_begins_192 F K R a0 I x1 x2 s0
  else
    zbd (some (R a0 9)) fun o87 =>
    zbd (zdr K o87 1) fun a88 =>
    zbd (zrd K I a88 (x1 - (48 : Int32))) fun v91 =>
    if v91 ≤ (0 : Int32) then
      f_X7_begins_192 F K R a0 I x1 x2 s0
    else
      zbd (some (R a0 9)) fun o93 =>
      zbd (zdr K o93 1) fun a94 =>
      zbd (zrd K I a94 (x1 - (48 : Int32))) fun v97 =>
      if v97 = s0 then
        f_X7_begins_192 F K R a0 I x1 x2 s0
      else
        f_X7_begins_210 F K R a0 I
def f_X7_begins_159 (F : Nat) (K : zK) (R : zR) (a0 : Nat)  (I : zI) (x1 : Int32) (x2 : Int32) : Option (Int32 × zI) :=
  f_X7_begins_160 F K R a0 I x1 x2 (1 : Int32)
def f_X7_begins_103 (F : Nat) (K : zK) (R : zR) (a0 : Nat)  (I : zI) : Option (Int32 × zI) :=
  zbd2 (f_X7_faults F K I R a0 (3 : Int32) (I a0 13)) fun v99 I100 =>
  if v99 = 0 ∨ v99 = 1 then
  some (v99, I100)
  else
  none
def f_X7_begins_81 (F : Nat) (K : zK) (R : zR) (a0 : Nat)  (I : zI) (x1 : Int32) (x2 : Int32) : Option (Int32 × zI) :=
  zbd (some (R a0 0)) fun o103 =>
  zbd (zdr K o103 1) fun a104 =>
  zbd (zrd K I a104 (5460 : Int32)) fun v107 =>
  if v107 = (32 : Int32) then
    f_X7_begins_103 F K R a0 I
  else
    if (I a0 12) ≤ (7 : Int32) then
      zbd (f_X7_byteAt F K I R a0 ((I a0 13) + (1 : Int32))) fun v110 =>
      if x2 = (0 : Int32) then
        f_X7_begins_160 F K R a0 I x1 x2 (0 : Int32)
      else
        if v110 = (40 : Int32) then
          f_X7_begins_160 F K R a0 I x1 x2 (2 : Int32)
        else
          if v110 = (42 : Int32) then
            if (I a0 12) ≤ (0 : Int32) then
              f_X7_begins_159 F K R a0 I x1 x2
            else
              f_X7_begins_160 F K R a0 I x1 x2 (3 : Int32)
          else
            f_X7_begins_159 F K R a0 I x1 x2
    else
      f_X7_begins_103 F K R a0 I
def f_X7_begins_43 (F : Nat) (K : zK) (R : zR) (a0 : Nat)  (I : zI) (x1 : Int32) (x2 : Int32) : Option (Int32 × zI) :=
  if (I a0 12) ≤ (0 : Int32) then
    f_X7_begins_81 F K R a0 I x1 x2
  else
    zbd (some (R a0 10)) fun o117 =>
    zbd (zdr K o117 1) fun a118 =>
    zbd (zrd K I a118 (I a0 12)) fun v121 =>
    zbd (f_X7_arguments F K I R a0 (5460 : Int32) v121) fun v122 =>
    if v122 = (8 : Int32) then
      zbd2 (f_X7_faults F K I R a0 (2 : Int32) (I a0 13)) fun v125 I126 =>
      if v125 = 0 ∨ v125 = 1 then
      some (v125, I126)
      else
      none
    else
      f_X7_begins_81 F K R a0 I x1 x2
def f_X7_begins (F : Nat) (K : zK) (I : zI) (R : zR) (a0 : Nat)  : Option (Int32 × zI) :=
  zbd (f_X7_byteAt F K I R a0 (I a0 13)) fun v129 =>
  zbd (f_X7_in F K I R v129 (48 : Int32) (57 : Int32)) fun v131 =>
  if v131 = (0 : Int32) then
    zbd (f_X7_in F K I R v129 (97 : Int32) (109 : Int32)) fun v134 =>
    if v134 = (0 : Int32) then
      zbd2 (f_X7_faults F K I R a0 (1 : Int32) (I a0 13)) fun v137 I138 =>
      if v137 = 0 ∨ v137 = 1 then
      some (v137, I138)
      else
      none
    else
      f_X7_begins_43 F K R a0 I v129 v131
  else
    f_X7_begins_43 F K R a0 I v129 v131
section
variable {p : Program} {l : Launch} {e : Env} {s : State} {m : MethodId} {args : Array Value} {below : List Frame} {meth : Method} {c : Code} {D : zD} {B n n0 n' fd ld : Nat} {K K0 K' : zK} {I I' : zI} {R R' : zR} {H : Heap} {locs : List Loc} {ls : Array Slot} {r : Int32}
set_option maxRecDepth 100000 in
set_option maxHeartbeats 4000000 in
theorem w_X7_begins_359 {F : Nat} {a0 : Nat}  (X : zX p s m c cX7_begins 5 RX7 D) (hr : meth.sig.returnType = some .boolean) (hlk : meth.locks = false) (hK0 : (K a0).1 = 17)  {x4 : Int32} {s0 : Option Nat} {s1 : Int32} {s2 : Int32} (hf : f_X7_begins_359 F K R a0  I x4 s0 s1 s2 = some (r, I')) (hW : zS (zOwn B K (B + n)) D B n K I R s.heap H locs) (hl : lv_has ls 5 [(0, .ref (B + a0)), (4, .int x4)]) : W p l e ({ frames := 2, cells := 0, slots := 0, locals := 65 } : Room) s m args below meth c H locs 0 0 (MQ below (zQi D (zOwn B K (B + n)) r B n K I' R) args s 0 0 (zOwn B K (B + n))) (F0 m 359 ls [.int s2, .int s1, zrf B s0]) := by
  unfold f_X7_begins_359 at hf
  refine lv_iadd X.1 X.2.1 dX7_begins_359 ?_
  obtain ⟨a1, rfl, k3, hg⟩ := zh_dr hf
  replace hf := hg
  refine ze_putI X 7 13 129 (RX7, TX7, 39) rfl hf hW k3 rfl (by decide) kfl_X7_129 rfl (by decide +kernel) dX7_begins_360 (fun I4 H locs hg hV => ?_)
  replace hf := hg
  replace hW := hV
  refine lv_aload_n X.1 X.2.1 dX7_begins_363 rfl (lv_at hl 0 rfl) ?_
  refine lv_aload_n X.1 X.2.1 dX7_begins_364 rfl (lv_at hl 0 rfl) ?_
  refine ze_getI X 7 13 129 (RX7, TX7, 39) rfl hW hK0 rfl (by decide) kfl_X7_129 dX7_begins_365 ?_
  obtain ⟨v5, h6, hg⟩ := zh_bd hf
  replace hf := hg
  refine ze_aftI0 (ze_runV (As := [.int (I4 a0 13)]) (rest := []) X 7 132 (c_X7_byteAt l D B n hK0 h6) vX7_byteAt kml_X7_132 hW hK0 rfl rfl ⟨by decide, by decide⟩ rfl hl.1 rfl (Nat.le_of_ble_eq_true rfl) ⟨Nat.le_refl _, Nat.le_refl _⟩ dX7_begins_368) hW (fun H locs hV => ?_)
  replace hW := hV
  refine lv_bipush (v := 40) X.1 X.2.1 dX7_begins_371 (by decide) ?_
  refine lv_icmp_ne (tgt := 436) X.1 X.2.1 dX7_begins_373 (by decide) (fun c7 => ?_) (fun c7 => ?_)
  · replace hf := zif_neg c7 hf
    refine lv_iconst (v := 1) X.1 X.2.1 dX7_begins_436 (by decide) ?_
    obtain ⟨rfl, rfl⟩ := zi2 hf
    exact ze_retZ X hr hlk (by decide) hW (Nat.le_refl _) (Nat.le_refl _) dX7_begins_437
  · replace hf := zif_pos c7 hf
    refine lv_iload X.1 X.2.1 dX7_begins_376 (lv_at hl 1 rfl) ?_
    refine lv_iconst (v := 3) X.1 X.2.1 dX7_begins_378 (by decide) ?_
    refine lv_icmp_eq (tgt := 436) X.1 X.2.1 dX7_begins_379 (by decide) (fun c8 => ?_) (fun c8 => ?_)
    · replace hf := zif_pos c8 hf
      refine lv_iconst (v := 1) X.1 X.2.1 dX7_begins_436 (by decide) ?_
      obtain ⟨rfl, rfl⟩ := zi2 hf
      exact ze_retZ X hr hlk (by decide) hW (Nat.le_refl _) (Nat.le_refl _) dX7_begins_437
    · replace hf := zif_neg c8 hf
      refine lv_aload_n X.1 X.2.1 dX7_begins_382 rfl (lv_at hl 0 rfl) ?_
      refine lv_dup X.1 X.2.1 dX7_begins_383 rfl ?_
      refine ze_getI X 7 12 140 (RX7, TX7, 39) rfl hW hK0 rfl (by decide) kfl_X7_140 dX7_begins_384 ?_
      refine lv_iconst (v := 1) X.1 X.2.1 dX7_begins_387 (by decide) ?_
      refine lv_iadd X.1 X.2.1 dX7_begins_388 ?_
      refine ze_putI X 7 12 140 (RX7, TX7, 39) rfl hf hW hK0 rfl (by decide) kfl_X7_140 rfl (by decide +kernel) dX7_begins_389 (fun I9 H locs hg hV => ?_)
      replace hf := hg
      replace hW := hV
      refine lv_aload_n X.1 X.2.1 dX7_begins_392 rfl (lv_at hl 0 rfl) ?_
      refine ze_gtR X 7 10 35 (RX7, TX7, 39) rfl hf hW hK0 rfl (by decide) kfl_X7_35 dX7_begins_393 (fun o10 hg => ?_)
      replace hf := hg
      refine lv_aload_n X.1 X.2.1 dX7_begins_396 rfl (lv_at hl 0 rfl) ?_
      refine ze_getI X 7 12 140 (RX7, TX7, 39) rfl hW hK0 rfl (by decide) kfl_X7_140 dX7_begins_397 ?_
      refine lv_aload_n X.1 X.2.1 dX7_begins_400 rfl (lv_at hl 0 rfl) ?_
      refine ze_gtR X 7 0 7 (RX7, TX7, 39) rfl hf hW hK0 rfl (by decide) kfl_X7_7 dX7_begins_401 (fun o11 hg => ?_)
      replace hf := hg
      refine lv_sipush (v := 5460) X.1 X.2.1 dX7_begins_404 (by decide) ?_
      obtain ⟨a12, rfl, k14, hg⟩ := zh_dr hf
      replace hf := hg
      refine ze_iald X hf hW k14 dX7_begins_407 (fun v15 hg => ?_)
      replace hf := hg
      refine lv_iconst (v := 1) X.1 X.2.1 dX7_begins_408 (by decide) ?_
      refine lv_isub X.1 X.2.1 dX7_begins_409 ?_
      obtain ⟨a16, rfl, k18, hg⟩ := zh_dr hf
      replace hf := hg
      refine ze_iast X hf hW k18 dX7_begins_410 (fun I19 H locs hg hV => ?_)
      replace hf := hg
      replace hW := hV
      refine lv_aload_n X.1 X.2.1 dX7_begins_411 rfl (lv_at hl 0 rfl) ?_
      refine ze_gtR X 7 11 38 (RX7, TX7, 39) rfl hf hW hK0 rfl (by decide) kfl_X7_38 dX7_begins_412 (fun o20 hg => ?_)
      replace hf := hg
      refine lv_aload_n X.1 X.2.1 dX7_begins_415 rfl (lv_at hl 0 rfl) ?_
      refine ze_getI X 7 12 140 (RX7, TX7, 39) rfl hW hK0 rfl (by decide) kfl_X7_140 dX7_begins_416 ?_
      refine lv_iconst (v := 0) X.1 X.2.1 dX7_begins_419 (by decide) ?_
      obtain ⟨a21, rfl, k23, hg⟩ := zh_dr hf
      replace hf := hg
      refine ze_zast X hf hW k23 dX7_begins_420 (fun I24 H locs hg hV => ?_)
      replace hf := hg
      replace hW := hV
      refine lv_aload_n X.1 X.2.1 dX7_begins_421 rfl (lv_at hl 0 rfl) ?_
      refine lv_dup X.1 X.2.1 dX7_begins_422 rfl ?_
      refine ze_getI X 7 13 129 (RX7, TX7, 39) rfl hW hK0 rfl (by decide) kfl_X7_129 dX7_begins_423 ?_
      refine lv_iconst (v := 1) X.1 X.2.1 dX7_begins_426 (by decide) ?_
      refine lv_iadd X.1 X.2.1 dX7_begins_427 ?_
      refine ze_putI X 7 13 129 (RX7, TX7, 39) rfl hf hW hK0 rfl (by decide) kfl_X7_129 rfl (by decide +kernel) dX7_begins_428 (fun I25 H locs hg hV => ?_)
      replace hf := hg
      replace hW := hV
      refine lv_aload_n X.1 X.2.1 dX7_begins_431 rfl (lv_at hl 0 rfl) ?_
      refine lv_iconst (v := 1) X.1 X.2.1 dX7_begins_432 (by decide) ?_
      refine ze_putZ X 7 14 147 (RX7, TX7, 39) rfl (by decide) hf hW hK0 rfl (by decide) kfl_X7_147 rfl (by decide +kernel) dX7_begins_433 (fun I26 H locs hg hV => ?_)
      replace hf := hg
      replace hW := hV
      refine lv_iconst (v := 1) X.1 X.2.1 dX7_begins_436 (by decide) ?_
      obtain ⟨rfl, rfl⟩ := zi2 hf
      exact ze_retZ X hr hlk (by decide) hW (Nat.le_refl _) (Nat.le_refl _) dX7_begins_437
set_option maxRecDepth 100000 in
set_option maxHeartbeats 4000000 in
theorem w_X7_begins_343 {F : Nat} {a0 : Nat}  (X : zX p s m c cX7_begins 5 RX7 D) (hr : meth.sig.returnType = some .boolean) (hlk : meth.locks = false) (hK0 : (K a0).1 = 17)  {x4 : Int32} (hf : f_X7_begins_343 F K R a0  I x4 = some (r, I')) (hW : zS (zOwn B K (B + n)) D B n K I R s.heap H locs) (hl : lv_has ls 5 [(0, .ref (B + a0)), (4, .int x4)]) : W p l e ({ frames := 2, cells := 0, slots := 0, locals := 65 } : Room) s m args below meth c H locs 0 0 (MQ below (zQi D (zOwn B K (B + n)) r B n K I' R) args s 0 0 (zOwn B K (B + n))) (F0 m 343 ls []) := by
  unfold f_X7_begins_343 at hf
  refine lv_aload_n X.1 X.2.1 dX7_begins_343 rfl (lv_at hl 0 rfl) ?_
  refine lv_dup X.1 X.2.1 dX7_begins_344 rfl ?_
  refine ze_getI X 7 13 129 (RX7, TX7, 39) rfl hW hK0 rfl (by decide) kfl_X7_129 dX7_begins_345 ?_
  refine lv_iload X.1 X.2.1 dX7_begins_348 (lv_at hl 1 rfl) ?_
  refine lv_iconst (v := 3) X.1 X.2.1 dX7_begins_350 (by decide) ?_
  refine lv_icmp_ne (tgt := 358) X.1 X.2.1 dX7_begins_351 (by decide) (fun c27 => ?_) (fun c27 => ?_)
  · replace hf := zif_neg c27 hf
    refine lv_iconst (v := 1) X.1 X.2.1 dX7_begins_358 (by decide) ?_
    exact w_X7_begins_359 X hr hlk hK0 hf hW hl
  · replace hf := zif_pos c27 hf
    refine lv_iconst (v := 2) X.1 X.2.1 dX7_begins_354 (by decide) ?_
    refine lv_goto (tgt := 359) X.1 X.2.1 dX7_begins_355 (by decide) ?_
    exact w_X7_begins_359 X hr hlk hK0 hf hW hl
set_option maxRecDepth 100000 in
set_option maxHeartbeats 4000000 in
theorem w_X7_begins_296 {F : Nat} {a0 : Nat}  (X : zX p s m c cX7_begins 5 RX7 D) (hr : meth.sig.returnType = some .boolean) (hlk : meth.locks = false) (hK0 : (K a0).1 = 17)  {x4 : Int32} {s0 : Option Nat} {s1 : Int32} {s2 : Int32} {s3 : Int32} {s4 : Int32} (hf : f_X7_begins_296 F K R a0  I x4 s0 s1 s2 s3 s4 = some (r, I')) (hW : zS (zOwn B K (B + n)) D B n K I R s.heap H locs) (hl : lv_has ls 5 [(0, .ref (B + a0)), (4, .int x4)]) : W p l e ({ frames := 2, cells := 0, slots := 0, locals := 65 } : Room) s m args below meth c H locs 0 0 (MQ below (zQi D (zOwn B K (B + n)) r B n K I' R) args s 0 0 (zOwn B K (B + n))) (F0 m 296 ls [.int s4, .int s3, .int s2, .int s1, zrf B s0]) := by
  unfold f_X7_begins_296 at hf
  refine lv_iconst (v := 0) X.1 X.2.1 dX7_begins_296 (by decide) ?_
  obtain ⟨a28, rfl, k30, hg⟩ := zh_dr hf
  replace hf := hg
  obtain ⟨I31, h32, hg⟩ := zh_bd hf
  replace hf := hg
  refine ze_aftV0 (ze_runV (As := [.int s1, .int s2, .int s3, .int s4, .int (0 : Int32)]) (rest := []) X 7 143 (c_X7_writes l D B n k30 h32) vX7_writes kml_X7_143 hW k30 rfl rfl ⟨by decide, by decide⟩ rfl hl.1 rfl (Nat.le_of_ble_eq_true rfl) ⟨Nat.le_refl _, Nat.le_refl _⟩ dX7_begins_297) hW (fun H locs hV => ?_)
  replace hW := hV
  refine lv_aload_n X.1 X.2.1 dX7_begins_300 rfl (lv_at hl 0 rfl) ?_
  refine ze_gtR X 7 0 7 (RX7, TX7, 39) rfl hf hW hK0 rfl (by decide) kfl_X7_7 dX7_begins_301 (fun o33 hg => ?_)
  replace hf := hg
  refine lv_sipush (v := 5460) X.1 X.2.1 dX7_begins_304 (by decide) ?_
  refine lv_dup2_11 X.1 X.2.1 dX7_begins_307 rfl (zcat _ _) ?_
  obtain ⟨a34, rfl, k36, hg⟩ := zh_dr hf
  replace hf := hg
  refine ze_iald X hf hW k36 dX7_begins_308 (fun v37 hg => ?_)
  replace hf := hg
  refine lv_iconst (v := 1) X.1 X.2.1 dX7_begins_309 (by decide) ?_
  refine lv_iadd X.1 X.2.1 dX7_begins_310 ?_
  refine ze_iast X hf hW k36 dX7_begins_311 (fun I38 H locs hg hV => ?_)
  replace hf := hg
  replace hW := hV
  refine lv_aload_n X.1 X.2.1 dX7_begins_312 rfl (lv_at hl 0 rfl) ?_
  refine ze_getI X 7 12 140 (RX7, TX7, 39) rfl hW hK0 rfl (by decide) kfl_X7_140 dX7_begins_313 ?_
  refine lv_if_le (tgt := 343) X.1 X.2.1 dX7_begins_316 (by decide) (fun c39 => ?_) (fun c39 => ?_)
  · replace hf := zif_pos c39 hf
    exact w_X7_begins_343 X hr hlk hK0 hf hW hl
  · replace hf := zif_neg c39 hf
    refine lv_aload_n X.1 X.2.1 dX7_begins_319 rfl (lv_at hl 0 rfl) ?_
    refine ze_gtR X 7 0 7 (RX7, TX7, 39) rfl hf hW hK0 rfl (by decide) kfl_X7_7 dX7_begins_320 (fun o40 hg => ?_)
    replace hf := hg
    refine lv_sipush (v := 5463) X.1 X.2.1 dX7_begins_323 (by decide) ?_
    refine lv_iconst (v := 3) X.1 X.2.1 dX7_begins_326 (by decide) ?_
    refine lv_aload_n X.1 X.2.1 dX7_begins_327 rfl (lv_at hl 0 rfl) ?_
    refine ze_gtR X 7 10 35 (RX7, TX7, 39) rfl hf hW hK0 rfl (by decide) kfl_X7_35 dX7_begins_328 (fun o41 hg => ?_)
    replace hf := hg
    refine lv_aload_n X.1 X.2.1 dX7_begins_331 rfl (lv_at hl 0 rfl) ?_
    refine ze_getI X 7 12 140 (RX7, TX7, 39) rfl hW hK0 rfl (by decide) kfl_X7_140 dX7_begins_332 ?_
    obtain ⟨a42, rfl, k44, hg⟩ := zh_dr hf
    replace hf := hg
    refine ze_iald X hf hW k44 dX7_begins_335 (fun v45 hg => ?_)
    replace hf := hg
    refine lv_imul X.1 X.2.1 dX7_begins_336 ?_
    refine lv_iadd X.1 X.2.1 dX7_begins_337 ?_
    refine lv_dup2_11 X.1 X.2.1 dX7_begins_338 rfl (zcat _ _) ?_
    obtain ⟨a46, rfl, k48, hg⟩ := zh_dr hf
    replace hf := hg
    refine ze_iald X hf hW k48 dX7_begins_339 (fun v49 hg => ?_)
    replace hf := hg
    refine lv_iconst (v := 1) X.1 X.2.1 dX7_begins_340 (by decide) ?_
    refine lv_iadd X.1 X.2.1 dX7_begins_341 ?_
    refine ze_iast X hf hW k48 dX7_begins_342 (fun I50 H locs hg hV => ?_)
    replace hf := hg
    replace hW := hV
    exact w_X7_begins_343 X hr hlk hK0 hf hW hl
set_option maxRecDepth 100000 in
set_option maxHeartbeats 4000000 in
theorem w_X7_begins_266 {F : Nat} {a0 : Nat}  (X : zX p s m c cX7_begins 5 RX7 D) (hr : meth.sig.returnType = some .boolean) (hlk : meth.locks = false) (hK0 : (K a0).1 = 17)  {x1 : Int32} {x2 : Int32} {x4 : Int32} {s0 : Option Nat} {s1 : Int32} {s2 : Int32} (hf : f_X7_begins_266 F K R a0  I x1 x2 x4 s0 s1 s2 = some (r, I')) (hW : zS (zOwn B K (B + n)) D B n K I R s.heap H locs) (hl : lv_has ls 5 [(0, .ref (B + a0)), (1, .int x1), (2, .int x2), (4, .int x4)]) : W p l e ({ frames := 2, cells := 0, slots := 0, locals := 65 } : Room) s m args below meth c H locs 0 0 (MQ below (zQi D (zOwn B K (B + n)) r B n K I' R) args s 0 0 (zOwn B K (B + n))) (F0 m 266 ls [.int s2, .int s1, zrf B s0]) := by
  unfold f_X7_begins_266 at hf
  obtain ⟨a51, rfl, k53, hg⟩ := zh_dr hf
  replace hf := hg
  refine ze_zast X hf hW k53 dX7_begins_266 (fun I54 H locs hg hV => ?_)
  replace hf := hg
  replace hW := hV
  refine lv_aload_n X.1 X.2.1 dX7_begins_267 rfl (lv_at hl 0 rfl) ?_
  refine lv_sipush (v := 5460) X.1 X.2.1 dX7_begins_268 (by decide) ?_
  refine lv_aload_n X.1 X.2.1 dX7_begins_271 rfl (lv_at hl 0 rfl) ?_
  refine ze_gtR X 7 0 7 (RX7, TX7, 39) rfl hf hW hK0 rfl (by decide) kfl_X7_7 dX7_begins_272 (fun o55 hg => ?_)
  replace hf := hg
  refine lv_sipush (v := 5460) X.1 X.2.1 dX7_begins_275 (by decide) ?_
  obtain ⟨a56, rfl, k58, hg⟩ := zh_dr hf
  replace hf := hg
  refine ze_iald X hf hW k58 dX7_begins_278 (fun v59 hg => ?_)
  replace hf := hg
  refine lv_iload X.1 X.2.1 dX7_begins_279 (lv_at hl 3 rfl) ?_
  refine lv_iload_n X.1 X.2.1 dX7_begins_281 rfl (lv_at hl 2 rfl) ?_
  refine lv_if_eq (tgt := 292) X.1 X.2.1 dX7_begins_282 (by decide) (fun c60 => ?_) (fun c60 => ?_)
  · replace hf := zif_pos c60 hf
    refine lv_iload_n X.1 X.2.1 dX7_begins_292 rfl (lv_at hl 1 rfl) ?_
    refine lv_bipush (v := 97) X.1 X.2.1 dX7_begins_293 (by decide) ?_
    refine lv_isub X.1 X.2.1 dX7_begins_295 ?_
    exact w_X7_begins_296 X hr hlk hK0 hf hW (lv_sub hl [0, 3] rfl)
  · replace hf := zif_neg c60 hf
    refine lv_iload_n X.1 X.2.1 dX7_begins_285 rfl (lv_at hl 1 rfl) ?_
    refine lv_bipush (v := 48) X.1 X.2.1 dX7_begins_286 (by decide) ?_
    refine lv_isub X.1 X.2.1 dX7_begins_288 ?_
    refine lv_goto (tgt := 296) X.1 X.2.1 dX7_begins_289 (by decide) ?_
    exact w_X7_begins_296 X hr hlk hK0 hf hW (lv_sub hl [0, 3] rfl)
set_option maxRecDepth 100000 in
set_option maxHeartbeats 4000000 in
theorem w_X7_begins_261 {F : Nat} {a0 : Nat}  (X : zX p s m c cX7_begins 5 RX7 D) (hr : meth.sig.returnType = some .boolean) (hlk : meth.locks = false) (hK0 : (K a0).1 = 17)  {x1 : Int32} {x2 : Int32} {x4 : Int32} {s0 : Option Nat} {s1 : Int32} (hf : f_X7_begins_261 F K R a0  I x1 x2 x4 s0 s1 = some (r, I')) (hW : zS (zOwn B K (B + n)) D B n K I R s.heap H locs) (hl : lv_has ls 5 [(0, .ref (B + a0)), (1, .int x1), (2, .int x2), (4, .int x4)]) : W p l e ({ frames := 2, cells := 0, slots := 0, locals := 65 } : Room) s m args below meth c H locs 0 0 (MQ below (zQi D (zOwn B K (B + n)) r B n K I' R) args s 0 0 (zOwn B K (B + n))) (F0 m 261 ls [.int s1, zrf B s0]) := by
  unfold f_X7_begins_261 at hf
  refine lv_iconst (v := 1) X.1 X.2.1 dX7_begins_261 (by decide) ?_
  refine lv_goto (tgt := 266) X.1 X.2.1 dX7_begins_262 (by decide) ?_
  exact w_X7_begins_266 X hr hlk hK0 hf hW hl
set_option maxRecDepth 100000 in
set_option maxHeartbeats 4000000 in
theorem w_X7_begins_235 {F : Nat} {a0 : Nat}  (X : zX p s m c cX7_begins 5 RX7 D) (hr : meth.sig.returnType = some .boolean) (hlk : meth.locks = false) (hK0 : (K a0).1 = 17)  {x1 : Int32} {x2 : Int32} {x4 : Int32} (hf : f_X7_begins_235 F K R a0  I x1 x2 x4 = some (r, I')) (hW : zS (zOwn B K (B + n)) D B n K I R s.heap H locs) (hl : lv_has ls 5 [(0, .ref (B + a0)), (1, .int x1), (2, .int x2), (4, .int x4)]) : W p l e ({ frames := 2, cells := 0, slots := 0, locals := 65 } : Room) s m args below meth c H locs 0 0 (MQ below (zQi D (zOwn B K (B + n)) r B n K I' R) args s 0 0 (zOwn B K (B + n))) (F0 m 235 ls []) := by
  unfold f_X7_begins_235 at hf
  refine lv_aload_n X.1 X.2.1 dX7_begins_235 rfl (lv_at hl 0 rfl) ?_
  refine ze_gtR X 7 11 38 (RX7, TX7, 39) rfl hf hW hK0 rfl (by decide) kfl_X7_38 dX7_begins_236 (fun o61 hg => ?_)
  replace hf := hg
  refine lv_aload_n X.1 X.2.1 dX7_begins_239 rfl (lv_at hl 0 rfl) ?_
  refine ze_getI X 7 12 140 (RX7, TX7, 39) rfl hW hK0 rfl (by decide) kfl_X7_140 dX7_begins_240 ?_
  refine lv_aload_n X.1 X.2.1 dX7_begins_243 rfl (lv_at hl 0 rfl) ?_
  refine ze_gtR X 7 11 38 (RX7, TX7, 39) rfl hf hW hK0 rfl (by decide) kfl_X7_38 dX7_begins_244 (fun o62 hg => ?_)
  replace hf := hg
  refine lv_aload_n X.1 X.2.1 dX7_begins_247 rfl (lv_at hl 0 rfl) ?_
  refine ze_getI X 7 12 140 (RX7, TX7, 39) rfl hW hK0 rfl (by decide) kfl_X7_140 dX7_begins_248 ?_
  obtain ⟨a63, rfl, k65, hg⟩ := zh_dr hf
  replace hf := hg
  refine ze_zald X hf hW k65 dX7_begins_251 (fun v66 hg => ?_)
  replace hf := hg
  refine lv_if_ne (tgt := 261) X.1 X.2.1 dX7_begins_252 (by decide) (fun c67 => ?_) (fun c67 => ?_)
  · replace hf := zif_neg c67 hf
    exact w_X7_begins_261 X hr hlk hK0 hf hW hl
  · replace hf := zif_pos c67 hf
    refine lv_iload X.1 X.2.1 dX7_begins_255 (lv_at hl 3 rfl) ?_
    refine lv_iconst (v := 3) X.1 X.2.1 dX7_begins_257 (by decide) ?_
    refine lv_icmp_ne (tgt := 265) X.1 X.2.1 dX7_begins_258 (by decide) (fun c68 => ?_) (fun c68 => ?_)
    · replace hf := zif_neg c68 hf
      refine lv_iconst (v := 0) X.1 X.2.1 dX7_begins_265 (by decide) ?_
      exact w_X7_begins_266 X hr hlk hK0 hf hW hl
    · replace hf := zif_pos c68 hf
      exact w_X7_begins_261 X hr hlk hK0 hf hW hl
set_option maxRecDepth 100000 in
set_option maxHeartbeats 4000000 in
theorem w_X7_begins_220 {F : Nat} {a0 : Nat}  (X : zX p s m c cX7_begins 5 RX7 D) (hr : meth.sig.returnType = some .boolean) (hlk : meth.locks = false) (hK0 : (K a0).1 = 17)  {x1 : Int32} {x2 : Int32} {x4 : Int32} (hf : f_X7_begins_220 F K R a0  I x1 x2 x4 = some (r, I')) (hW : zS (zOwn B K (B + n)) D B n K I R s.heap H locs) (hl : lv_has ls 5 [(0, .ref (B + a0)), (1, .int x1), (2, .int x2), (4, .int x4)]) : W p l e ({ frames := 2, cells := 0, slots := 0, locals := 65 } : Room) s m args below meth c H locs 0 0 (MQ below (zQi D (zOwn B K (B + n)) r B n K I' R) args s 0 0 (zOwn B K (B + n))) (F0 m 220 ls []) := by
  unfold f_X7_begins_220 at hf
  refine lv_iload_n X.1 X.2.1 dX7_begins_220 rfl (lv_at hl 2 rfl) ?_
  refine lv_if_eq (tgt := 235) X.1 X.2.1 dX7_begins_221 (by decide) (fun c69 => ?_) (fun c69 => ?_)
  · replace hf := zif_pos c69 hf
    exact w_X7_begins_235 X hr hlk hK0 hf hW hl
  · replace hf := zif_neg c69 hf
    refine lv_aload_n X.1 X.2.1 dX7_begins_224 rfl (lv_at hl 0 rfl) ?_
    refine ze_gtR X 7 9 32 (RX7, TX7, 39) rfl hf hW hK0 rfl (by decide) kfl_X7_32 dX7_begins_225 (fun o70 hg => ?_)
    replace hf := hg
    refine lv_iload_n X.1 X.2.1 dX7_begins_228 rfl (lv_at hl 1 rfl) ?_
    refine lv_bipush (v := 48) X.1 X.2.1 dX7_begins_229 (by decide) ?_
    refine lv_isub X.1 X.2.1 dX7_begins_231 ?_
    refine lv_iload X.1 X.2.1 dX7_begins_232 (lv_at hl 3 rfl) ?_
    obtain ⟨a71, rfl, k73, hg⟩ := zh_dr hf
    replace hf := hg
    refine ze_iast X hf hW k73 dX7_begins_234 (fun I74 H locs hg hV => ?_)
    replace hf := hg
    replace hW := hV
    exact w_X7_begins_235 X hr hlk hK0 hf hW hl
set_option maxRecDepth 100000 in
set_option maxHeartbeats 4000000 in
theorem w_X7_begins_210 {F : Nat} {a0 : Nat}  (X : zX p s m c cX7_begins 5 RX7 D) (hr : meth.sig.returnType = some .boolean) (hlk : meth.locks = false) (hK0 : (K a0).1 = 17)   (hf : f_X7_begins_210 F K R a0  I = some (r, I')) (hW : zS (zOwn B K (B + n)) D B n K I R s.heap H locs) (hl : lv_has ls 5 [(0, .ref (B + a0))]) : W p l e ({ frames := 2, cells := 0, slots := 0, locals := 65 } : Room) s m args below meth c H locs 0 0 (MQ below (zQi D (zOwn B K (B + n)) r B n K I' R) args s 0 0 (zOwn B K (B + n))) (F0 m 210 ls []) := by
  unfold f_X7_begins_210 at hf
  refine lv_aload_n X.1 X.2.1 dX7_begins_210 rfl (lv_at hl 0 rfl) ?_
  refine lv_iconst (v := 4) X.1 X.2.1 dX7_begins_211 (by decide) ?_
  refine lv_aload_n X.1 X.2.1 dX7_begins_212 rfl (lv_at hl 0 rfl) ?_
  refine ze_getI X 7 13 129 (RX7, TX7, 39) rfl hW hK0 rfl (by decide) kfl_X7_129 dX7_begins_213 ?_
  obtain ⟨v75, I76, h77, hg⟩ := zh_bd2 hf
  replace hf := hg
  refine ze_aftI0 (ze_runV (As := [.int (4 : Int32), .int (I a0 13)]) (rest := []) X 7 136 (c_X7_faults l D B n hK0 h77) vX7_faults kml_X7_136 hW hK0 rfl rfl ⟨by decide, by decide⟩ rfl hl.1 rfl (Nat.le_of_ble_eq_true rfl) ⟨Nat.le_refl _, Nat.le_refl _⟩ dX7_begins_216) hW (fun H locs hV => ?_)
  replace hW := hV
  obtain ⟨hv78, hg⟩ := zh_if hf
  replace hf := hg
  obtain ⟨rfl, rfl⟩ := zi2 hf
  exact ze_retZ X hr hlk hv78 hW (Nat.le_refl _) (Nat.le_refl _) dX7_begins_219
set_option maxRecDepth 100000 in
set_option maxHeartbeats 4000000 in
theorem w_X7_begins_192 {F : Nat} {a0 : Nat}  (X : zX p s m c cX7_begins 5 RX7 D) (hr : meth.sig.returnType = some .boolean) (hlk : meth.locks = false) (hK0 : (K a0).1 = 17)  {x1 : Int32} {x2 : Int32} {x4 : Int32} (hf : f_X7_begins_192 F K R a0  I x1 x2 x4 = some (r, I')) (hW : zS (zOwn B K (B + n)) D B n K I R s.heap H locs) (hl : lv_has ls 5 [(0, .ref (B + a0)), (1, .int x1), (2, .int x2), (4, .int x4)]) : W p l e ({ frames := 2, cells := 0, slots := 0, locals := 65 } : Room) s m args below meth c H locs 0 0 (MQ below (zQi D (zOwn B K (B + n)) r B n K I' R) args s 0 0 (zOwn B K (B + n))) (F0 m 192 ls []) := by
  unfold f_X7_begins_192 at hf
  refine lv_iload X.1 X.2.1 dX7_begins_192 (lv_at hl 3 rfl) ?_
  refine lv_iconst (v := 3) X.1 X.2.1 dX7_begins_194 (by decide) ?_
  refine lv_icmp_ne (tgt := 220) X.1 X.2.1 dX7_begins_195 (by decide) (fun c79 => ?_) (fun c79 => ?_)
  · replace hf := zif_neg c79 hf
    exact w_X7_begins_220 X hr hlk hK0 hf hW hl
  · replace hf := zif_pos c79 hf
    refine lv_aload_n X.1 X.2.1 dX7_begins_198 rfl (lv_at hl 0 rfl) ?_
    refine ze_gtR X 7 11 38 (RX7, TX7, 39) rfl hf hW hK0 rfl (by decide) kfl_X7_38 dX7_begins_199 (fun o80 hg => ?_)
    replace hf := hg
    refine lv_aload_n X.1 X.2.1 dX7_begins_202 rfl (lv_at hl 0 rfl) ?_
    refine ze_getI X 7 12 140 (RX7, TX7, 39) rfl hW hK0 rfl (by decide) kfl_X7_140 dX7_begins_203 ?_
    obtain ⟨a81, rfl, k83, hg⟩ := zh_dr hf
    replace hf := hg
    refine ze_zald X hf hW k83 dX7_begins_206 (fun v84 hg => ?_)
    replace hf := hg
    refine lv_if_eq (tgt := 220) X.1 X.2.1 dX7_begins_207 (by decide) (fun c85 => ?_) (fun c85 => ?_)
    · replace hf := zif_pos c85 hf
      exact w_X7_begins_220 X hr hlk hK0 hf hW hl
    · replace hf := zif_neg c85 hf
      exact w_X7_begins_210 X hr hlk hK0 hf hW (lv_sub hl [0] rfl)
set_option maxRecDepth 100000 in
set_option maxHeartbeats 4000000 in
theorem w_X7_begins_160 {F : Nat} {a0 : Nat}  (X : zX p s m c cX7_begins 5 RX7 D) (hr : meth.sig.returnType = some .boolean) (hlk : meth.locks = false) (hK0 : (K a0).1 = 17)  {x1 : Int32} {x2 : Int32} {s0 : Int32} (hf : f_X7_begins_160 F K R a0  I x1 x2 s0 = some (r, I')) (hW : zS (zOwn B K (B + n)) D B n K I R s.heap H locs) (hl : lv_has ls 5 [(0, .ref (B + a0)), (1, .int x1), (2, .int x2)]) : W p l e ({ frames := 2, cells := 0, slots := 0, locals := 65 } : Room) s m args below meth c H locs 0 0 (MQ below (zQi D (zOwn B K (B + n)) r B n K I' R) args s 0 0 (zOwn B K (B + n))) (F0 m 160 ls [.int s0]) := by
  unfold f_X7_begins_160 at hf
  refine lv_istore (lv' := [(4, .int s0), (0, .ref (B + a0)), (1, .int x1), (2, .int x2)]) X.1 X.2.1 dX7_begins_160 hl (by decide) rfl (fun ls hk => ?_)
  replace hl := hk
  refine lv_iload_n X.1 X.2.1 dX7_begins_162 rfl (lv_at hl 3 rfl) ?_
  refine lv_if_eq (tgt := 192) X.1 X.2.1 dX7_begins_163 (by decide) (fun c86 => ?_) (fun c86 => ?_)
  · replace hf := zif_pos c86 hf
    exact w_X7_begins_192 X hr hlk hK0 hf hW (lv_sub hl [1, 2, 3, 0] rfl)
  · replace hf := zif_neg c86 hf
    refine lv_aload_n X.1 X.2.1 dX7_begins_166 rfl (lv_at hl 1 rfl) ?_
    refine ze_gtR X 7 9 32 (RX7, TX7, 39) rfl hf hW hK0 rfl (by decide) kfl_X7_32 dX7_begins_167 (fun o87 hg => ?_)
    replace hf := hg
    refine lv_iload_n X.1 X.2.1 dX7_begins_170 rfl (lv_at hl 2 rfl) ?_
    refine lv_bipush (v := 48) X.1 X.2.1 dX7_begins_171 (by decide) ?_
    refine lv_isub X.1 X.2.1 dX7_begins_173 ?_
    obtain ⟨a88, rfl, k90, hg⟩ := zh_dr hf
    replace hf := hg
    refine ze_iald X hf hW k90 dX7_begins_174 (fun v91 hg => ?_)
    replace hf := hg
    refine lv_if_le (tgt := 192) X.1 X.2.1 dX7_begins_175 (by decide) (fun c92 => ?_) (fun c92 => ?_)
    · replace hf := zif_pos c92 hf
      exact w_X7_begins_192 X hr hlk hK0 hf hW (lv_sub hl [1, 2, 3, 0] rfl)
    · replace hf := zif_neg c92 hf
      refine lv_aload_n X.1 X.2.1 dX7_begins_178 rfl (lv_at hl 1 rfl) ?_
      refine ze_gtR X 7 9 32 (RX7, TX7, 39) rfl hf hW hK0 rfl (by decide) kfl_X7_32 dX7_begins_179 (fun o93 hg => ?_)
      replace hf := hg
      refine lv_iload_n X.1 X.2.1 dX7_begins_182 rfl (lv_at hl 2 rfl) ?_
      refine lv_bipush (v := 48) X.1 X.2.1 dX7_begins_183 (by decide) ?_
      refine lv_isub X.1 X.2.1 dX7_begins_185 ?_
      obtain ⟨a94, rfl, k96, hg⟩ := zh_dr hf
      replace hf := hg
      refine ze_iald X hf hW k96 dX7_begins_186 (fun v97 hg => ?_)
      replace hf := hg
      refine lv_iload X.1 X.2.1 dX7_begins_187 (lv_at hl 0 rfl) ?_
      refine lv_icmp_ne (tgt := 210) X.1 X.2.1 dX7_begins_189 (by decide) (fun c98 => ?_) (fun c98 => ?_)
      · replace hf := zif_neg c98 hf
        exact w_X7_begins_210 X hr hlk hK0 hf hW (lv_sub hl [1] rfl)
      · replace hf := zif_pos c98 hf
        exact w_X7_begins_192 X hr hlk hK0 hf hW (lv_sub hl [1, 2, 3, 0] rfl)
set_option maxRecDepth 100000 in
set_option maxHeartbeats 4000000 in
theorem w_X7_begins_159 {F : Nat} {a0 : Nat}  (X : zX p s m c cX7_begins 5 RX7 D) (hr : meth.sig.returnType = some .boolean) (hlk : meth.locks = false) (hK0 : (K a0).1 = 17)  {x1 : Int32} {x2 : Int32} (hf : f_X7_begins_159 F K R a0  I x1 x2 = some (r, I')) (hW : zS (zOwn B K (B + n)) D B n K I R s.heap H locs) (hl : lv_has ls 5 [(0, .ref (B + a0)), (1, .int x1), (2, .int x2)]) : W p l e ({ frames := 2, cells := 0, slots := 0, locals := 65 } : Room) s m args below meth c H locs 0 0 (MQ below (zQi D (zOwn B K (B + n)) r B n K I' R) args s 0 0 (zOwn B K (B + n))) (F0 m 159 ls []) := by
  unfold f_X7_begins_159 at hf
  refine lv_iconst (v := 1) X.1 X.2.1 dX7_begins_159 (by decide) ?_
  exact w_X7_begins_160 X hr hlk hK0 hf hW hl
set_option maxRecDepth 100000 in
set_option maxHeartbeats 4000000 in
theorem w_X7_begins_103 {F : Nat} {a0 : Nat}  (X : zX p s m c cX7_begins 5 RX7 D) (hr : meth.sig.returnType = some .boolean) (hlk : meth.locks = false) (hK0 : (K a0).1 = 17)   (hf : f_X7_begins_103 F K R a0  I = some (r, I')) (hW : zS (zOwn B K (B + n)) D B n K I R s.heap H locs) (hl : lv_has ls 5 [(0, .ref (B + a0))]) : W p l e ({ frames := 2, cells := 0, slots := 0, locals := 65 } : Room) s m args below meth c H locs 0 0 (MQ below (zQi D (zOwn B K (B + n)) r B n K I' R) args s 0 0 (zOwn B K (B + n))) (F0 m 103 ls []) := by
  unfold f_X7_begins_103 at hf
  refine lv_aload_n X.1 X.2.1 dX7_begins_103 rfl (lv_at hl 0 rfl) ?_
  refine lv_iconst (v := 3) X.1 X.2.1 dX7_begins_104 (by decide) ?_
  refine lv_aload_n X.1 X.2.1 dX7_begins_105 rfl (lv_at hl 0 rfl) ?_
  refine ze_getI X 7 13 129 (RX7, TX7, 39) rfl hW hK0 rfl (by decide) kfl_X7_129 dX7_begins_106 ?_
  obtain ⟨v99, I100, h101, hg⟩ := zh_bd2 hf
  replace hf := hg
  refine ze_aftI0 (ze_runV (As := [.int (3 : Int32), .int (I a0 13)]) (rest := []) X 7 136 (c_X7_faults l D B n hK0 h101) vX7_faults kml_X7_136 hW hK0 rfl rfl ⟨by decide, by decide⟩ rfl hl.1 rfl (Nat.le_of_ble_eq_true rfl) ⟨Nat.le_refl _, Nat.le_refl _⟩ dX7_begins_109) hW (fun H locs hV => ?_)
  replace hW := hV
  obtain ⟨hv102, hg⟩ := zh_if hf
  replace hf := hg
  obtain ⟨rfl, rfl⟩ := zi2 hf
  exact ze_retZ X hr hlk hv102 hW (Nat.le_refl _) (Nat.le_refl _) dX7_begins_112
set_option maxRecDepth 100000 in
set_option maxHeartbeats 4000000 in
theorem w_X7_begins_81 {F : Nat} {a0 : Nat}  (X : zX p s m c cX7_begins 5 RX7 D) (hr : meth.sig.returnType = some .boolean) (hlk : meth.locks = false) (hK0 : (K a0).1 = 17)  {x1 : Int32} {x2 : Int32} (hf : f_X7_begins_81 F K R a0  I x1 x2 = some (r, I')) (hW : zS (zOwn B K (B + n)) D B n K I R s.heap H locs) (hl : lv_has ls 5 [(0, .ref (B + a0)), (1, .int x1), (2, .int x2)]) : W p l e ({ frames := 2, cells := 0, slots := 0, locals := 65 } : Room) s m args below meth c H locs 0 0 (MQ below (zQi D (zOwn B K (B + n)) r B n K I' R) args s 0 0 (zOwn B K (B + n))) (F0 m 81 ls []) := by
  unfold f_X7_begins_81 at hf
  refine lv_aload_n X.1 X.2.1 dX7_begins_81 rfl (lv_at hl 0 rfl) ?_
  refine ze_gtR X 7 0 7 (RX7, TX7, 39) rfl hf hW hK0 rfl (by decide) kfl_X7_7 dX7_begins_82 (fun o103 hg => ?_)
  replace hf := hg
  refine lv_sipush (v := 5460) X.1 X.2.1 dX7_begins_85 (by decide) ?_
  obtain ⟨a104, rfl, k106, hg⟩ := zh_dr hf
  replace hf := hg
  refine ze_iald X hf hW k106 dX7_begins_88 (fun v107 hg => ?_)
  replace hf := hg
  refine lv_bipush (v := 32) X.1 X.2.1 dX7_begins_89 (by decide) ?_
  refine lv_icmp_eq (tgt := 103) X.1 X.2.1 dX7_begins_91 (by decide) (fun c108 => ?_) (fun c108 => ?_)
  · replace hf := zif_pos c108 hf
    exact w_X7_begins_103 X hr hlk hK0 hf hW (lv_sub hl [0] rfl)
  · replace hf := zif_neg c108 hf
    refine lv_aload_n X.1 X.2.1 dX7_begins_94 rfl (lv_at hl 0 rfl) ?_
    refine ze_getI X 7 12 140 (RX7, TX7, 39) rfl hW hK0 rfl (by decide) kfl_X7_140 dX7_begins_95 ?_
    refine lv_bipush (v := 7) X.1 X.2.1 dX7_begins_98 (by decide) ?_
    refine lv_icmp_le (tgt := 113) X.1 X.2.1 dX7_begins_100 (by decide) (fun c109 => ?_) (fun c109 => ?_)
    · replace hf := zif_pos c109 hf
      refine lv_aload_n X.1 X.2.1 dX7_begins_113 rfl (lv_at hl 0 rfl) ?_
      refine lv_aload_n X.1 X.2.1 dX7_begins_114 rfl (lv_at hl 0 rfl) ?_
      refine ze_getI X 7 13 129 (RX7, TX7, 39) rfl hW hK0 rfl (by decide) kfl_X7_129 dX7_begins_115 ?_
      refine lv_iconst (v := 1) X.1 X.2.1 dX7_begins_118 (by decide) ?_
      refine lv_iadd X.1 X.2.1 dX7_begins_119 ?_
      obtain ⟨v110, h111, hg⟩ := zh_bd hf
      replace hf := hg
      refine ze_aftI0 (ze_runV (As := [.int ((I a0 13) + (1 : Int32))]) (rest := []) X 7 132 (c_X7_byteAt l D B n hK0 h111) vX7_byteAt kml_X7_132 hW hK0 rfl rfl ⟨by decide, by decide⟩ rfl hl.1 rfl (Nat.le_of_ble_eq_true rfl) ⟨Nat.le_refl _, Nat.le_refl _⟩ dX7_begins_120) hW (fun H locs hV => ?_)
      replace hW := hV
      refine lv_istore_n (i := 3) (lv' := [(3, .int v110), (0, .ref (B + a0)), (1, .int x1), (2, .int x2)]) X.1 X.2.1 dX7_begins_123 rfl hl (by decide) rfl (fun ls hk => ?_)
      replace hl := hk
      refine lv_iload_n X.1 X.2.1 dX7_begins_124 rfl (lv_at hl 3 rfl) ?_
      refine lv_if_ne (tgt := 132) X.1 X.2.1 dX7_begins_125 (by decide) (fun c112 => ?_) (fun c112 => ?_)
      · replace hf := zif_neg c112 hf
        refine lv_iload_n X.1 X.2.1 dX7_begins_132 rfl (lv_at hl 0 rfl) ?_
        refine lv_bipush (v := 40) X.1 X.2.1 dX7_begins_133 (by decide) ?_
        refine lv_icmp_ne (tgt := 142) X.1 X.2.1 dX7_begins_135 (by decide) (fun c113 => ?_) (fun c113 => ?_)
        · replace hf := zif_neg c113 hf
          refine lv_iload_n X.1 X.2.1 dX7_begins_142 rfl (lv_at hl 0 rfl) ?_
          refine lv_bipush (v := 42) X.1 X.2.1 dX7_begins_143 (by decide) ?_
          refine lv_icmp_ne (tgt := 159) X.1 X.2.1 dX7_begins_145 (by decide) (fun c114 => ?_) (fun c114 => ?_)
          · replace hf := zif_neg c114 hf
            exact w_X7_begins_159 X hr hlk hK0 hf hW (lv_sub hl [1, 2, 3] rfl)
          · replace hf := zif_pos c114 hf
            refine lv_aload_n X.1 X.2.1 dX7_begins_148 rfl (lv_at hl 1 rfl) ?_
            refine ze_getI X 7 12 140 (RX7, TX7, 39) rfl hW hK0 rfl (by decide) kfl_X7_140 dX7_begins_149 ?_
            refine lv_if_le (tgt := 159) X.1 X.2.1 dX7_begins_152 (by decide) (fun c115 => ?_) (fun c115 => ?_)
            · replace hf := zif_pos c115 hf
              exact w_X7_begins_159 X hr hlk hK0 hf hW (lv_sub hl [1, 2, 3] rfl)
            · replace hf := zif_neg c115 hf
              refine lv_iconst (v := 3) X.1 X.2.1 dX7_begins_155 (by decide) ?_
              refine lv_goto (tgt := 160) X.1 X.2.1 dX7_begins_156 (by decide) ?_
              exact w_X7_begins_160 X hr hlk hK0 hf hW (lv_sub hl [1, 2, 3] rfl)
        · replace hf := zif_pos c113 hf
          refine lv_iconst (v := 2) X.1 X.2.1 dX7_begins_138 (by decide) ?_
          refine lv_goto (tgt := 160) X.1 X.2.1 dX7_begins_139 (by decide) ?_
          exact w_X7_begins_160 X hr hlk hK0 hf hW (lv_sub hl [1, 2, 3] rfl)
      · replace hf := zif_pos c112 hf
        refine lv_iconst (v := 0) X.1 X.2.1 dX7_begins_128 (by decide) ?_
        refine lv_goto (tgt := 160) X.1 X.2.1 dX7_begins_129 (by decide) ?_
        exact w_X7_begins_160 X hr hlk hK0 hf hW (lv_sub hl [1, 2, 3] rfl)
    · replace hf := zif_neg c109 hf
      exact w_X7_begins_103 X hr hlk hK0 hf hW (lv_sub hl [0] rfl)
set_option maxRecDepth 100000 in
set_option maxHeartbeats 4000000 in
theorem w_X7_begins_43 {F : Nat} {a0 : Nat}  (X : zX p s m c cX7_begins 5 RX7 D) (hr : meth.sig.returnType = some .boolean) (hlk : meth.locks = false) (hK0 : (K a0).1 = 17)  {x1 : Int32} {x2 : Int32} (hf : f_X7_begins_43 F K R a0  I x1 x2 = some (r, I')) (hW : zS (zOwn B K (B + n)) D B n K I R s.heap H locs) (hl : lv_has ls 5 [(0, .ref (B + a0)), (1, .int x1), (2, .int x2)]) : W p l e ({ frames := 2, cells := 0, slots := 0, locals := 65 } : Room) s m args below meth c H locs 0 0 (MQ below (zQi D (zOwn B K (B + n)) r B n K I' R) args s 0 0 (zOwn B K (B + n))) (F0 m 43 ls []) := by
  unfold f_X7_begins_43 at hf
  refine lv_aload_n X.1 X.2.1 dX7_begins_43 rfl (lv_at hl 0 rfl) ?_
  refine ze_getI X 7 12 140 (RX7, TX7, 39) rfl hW hK0 rfl (by decide) kfl_X7_140 dX7_begins_44 ?_
  refine lv_if_le (tgt := 81) X.1 X.2.1 dX7_begins_47 (by decide) (fun c116 => ?_) (fun c116 => ?_)
  · replace hf := zif_pos c116 hf
    exact w_X7_begins_81 X hr hlk hK0 hf hW hl
  · replace hf := zif_neg c116 hf
    refine lv_aload_n X.1 X.2.1 dX7_begins_50 rfl (lv_at hl 0 rfl) ?_
    refine lv_sipush (v := 5460) X.1 X.2.1 dX7_begins_51 (by decide) ?_
    refine lv_aload_n X.1 X.2.1 dX7_begins_54 rfl (lv_at hl 0 rfl) ?_
    refine ze_gtR X 7 10 35 (RX7, TX7, 39) rfl hf hW hK0 rfl (by decide) kfl_X7_35 dX7_begins_55 (fun o117 hg => ?_)
    replace hf := hg
    refine lv_aload_n X.1 X.2.1 dX7_begins_58 rfl (lv_at hl 0 rfl) ?_
    refine ze_getI X 7 12 140 (RX7, TX7, 39) rfl hW hK0 rfl (by decide) kfl_X7_140 dX7_begins_59 ?_
    obtain ⟨a118, rfl, k120, hg⟩ := zh_dr hf
    replace hf := hg
    refine ze_iald X hf hW k120 dX7_begins_62 (fun v121 hg => ?_)
    replace hf := hg
    obtain ⟨v122, h123, hg⟩ := zh_bd hf
    replace hf := hg
    refine ze_aftI0 (ze_runV (As := [.int (5460 : Int32), .int v121]) (rest := []) X 7 111 (c_X7_arguments l D B n hK0 h123) vX7_arguments kml_X7_111 hW hK0 rfl rfl ⟨by decide, by decide⟩ rfl hl.1 rfl (Nat.le_of_ble_eq_true rfl) ⟨Nat.le_refl _, Nat.le_refl _⟩ dX7_begins_63) hW (fun H locs hV => ?_)
    replace hW := hV
    refine lv_bipush (v := 8) X.1 X.2.1 dX7_begins_66 (by decide) ?_
    refine lv_icmp_ne (tgt := 81) X.1 X.2.1 dX7_begins_68 (by decide) (fun c124 => ?_) (fun c124 => ?_)
    · replace hf := zif_neg c124 hf
      exact w_X7_begins_81 X hr hlk hK0 hf hW hl
    · replace hf := zif_pos c124 hf
      refine lv_aload_n X.1 X.2.1 dX7_begins_71 rfl (lv_at hl 0 rfl) ?_
      refine lv_iconst (v := 2) X.1 X.2.1 dX7_begins_72 (by decide) ?_
      refine lv_aload_n X.1 X.2.1 dX7_begins_73 rfl (lv_at hl 0 rfl) ?_
      refine ze_getI X 7 13 129 (RX7, TX7, 39) rfl hW hK0 rfl (by decide) kfl_X7_129 dX7_begins_74 ?_
      obtain ⟨v125, I126, h127, hg⟩ := zh_bd2 hf
      replace hf := hg
      refine ze_aftI0 (ze_runV (As := [.int (2 : Int32), .int (I a0 13)]) (rest := []) X 7 136 (c_X7_faults l D B n hK0 h127) vX7_faults kml_X7_136 hW hK0 rfl rfl ⟨by decide, by decide⟩ rfl hl.1 rfl (Nat.le_of_ble_eq_true rfl) ⟨Nat.le_refl _, Nat.le_refl _⟩ dX7_begins_77) hW (fun H locs hV => ?_)
      replace hW := hV
      obtain ⟨hv128, hg⟩ := zh_if hf
      replace hf := hg
      obtain ⟨rfl, rfl⟩ := zi2 hf
      exact ze_retZ X hr hlk hv128 hW (Nat.le_refl _) (Nat.le_refl _) dX7_begins_80
set_option maxRecDepth 100000 in
set_option maxHeartbeats 4000000 in
theorem c_X7_begins (l : Launch) (D : zD) (B n : Nat) {F : Nat} {K : zK} {I : zI} {R : zR} {a0 : Nat}  {r : Int32} {I' : zI} (hK0 : (K a0).1 = 17) (hf : f_X7_begins F K I R a0  = some (r, I')) : zM l yX7_begins cX7_begins 5 (some .boolean) ({ frames := 2, cells := 0, slots := 0, locals := 65 } : Room) D B n K I R [.ref (B + a0)] (zQi D (zOwn B K (B + n)) r B n K I' R) := by
  refine ze_entry (lv0 := [(0, .ref (B + a0))]) (by decide) (by simp [lg_sl, zcat, zcat_i, zcat_r, zcat_l]) (by simp [lv_args, zcat, zcat_i, zcat_r, zcat_l]) (fun p e s m below meth c X hr hlk hin hW ls hl => ?_)
  unfold f_X7_begins at hf
  refine lv_aload_n X.1 X.2.1 dX7_begins_0 rfl (lv_at hl 0 rfl) ?_
  refine lv_aload_n X.1 X.2.1 dX7_begins_1 rfl (lv_at hl 0 rfl) ?_
  refine ze_getI X 7 13 129 (RX7, TX7, 39) rfl hW hK0 rfl (by decide) kfl_X7_129 dX7_begins_2 ?_
  obtain ⟨v129, h130, hg⟩ := zh_bd hf
  replace hf := hg
  refine ze_aftI0 (ze_runV (As := [.int (I a0 13)]) (rest := []) X 7 132 (c_X7_byteAt l D B n hK0 h130) vX7_byteAt kml_X7_132 hW hK0 rfl rfl ⟨by decide, by decide⟩ rfl hl.1 rfl (Nat.le_of_ble_eq_true rfl) ⟨Nat.le_refl _, Nat.le_refl _⟩ dX7_begins_5) hW (fun H locs hV => ?_)
  replace hW := hV
  refine lv_istore_n (i := 1) (lv' := [(1, .int v129), (0, .ref (B + a0))]) X.1 X.2.1 dX7_begins_8 rfl hl (by decide) rfl (fun ls hk => ?_)
  replace hl := hk
  refine lv_iload_n X.1 X.2.1 dX7_begins_9 rfl (lv_at hl 0 rfl) ?_
  refine lv_bipush (v := 48) X.1 X.2.1 dX7_begins_10 (by decide) ?_
  refine lv_bipush (v := 57) X.1 X.2.1 dX7_begins_12 (by decide) ?_
  obtain ⟨v131, h132, hg⟩ := zh_bd hf
  replace hf := hg
  refine ze_aftI0 (ze_runS (As := [.int v129, .int (48 : Int32), .int (57 : Int32)]) (rest := []) X 122 (c_X7_in l D B n h132) vX7_in kml_X7_122 hW ⟨by decide, by decide⟩ rfl hl.1 rfl (Nat.le_of_ble_eq_true rfl) ⟨Nat.le_refl _, Nat.le_refl _⟩ dX7_begins_14) hW (fun H locs hV => ?_)
  replace hW := hV
  refine lv_istore_n (i := 2) (lv' := [(2, .int v131), (1, .int v129), (0, .ref (B + a0))]) X.1 X.2.1 dX7_begins_17 rfl hl (by decide) rfl (fun ls hk => ?_)
  replace hl := hk
  refine lv_iload_n X.1 X.2.1 dX7_begins_18 rfl (lv_at hl 0 rfl) ?_
  refine lv_if_ne (tgt := 43) X.1 X.2.1 dX7_begins_19 (by decide) (fun c133 => ?_) (fun c133 => ?_)
  · replace hf := zif_neg c133 hf
    exact w_X7_begins_43 X hr hlk hK0 hf hW (lv_sub hl [2, 1, 0] rfl)
  · replace hf := zif_pos c133 hf
    refine lv_iload_n X.1 X.2.1 dX7_begins_22 rfl (lv_at hl 1 rfl) ?_
    refine lv_bipush (v := 97) X.1 X.2.1 dX7_begins_23 (by decide) ?_
    refine lv_bipush (v := 109) X.1 X.2.1 dX7_begins_25 (by decide) ?_
    obtain ⟨v134, h135, hg⟩ := zh_bd hf
    replace hf := hg
    refine ze_aftI0 (ze_runS (As := [.int v129, .int (97 : Int32), .int (109 : Int32)]) (rest := []) X 122 (c_X7_in l D B n h135) vX7_in kml_X7_122 hW ⟨by decide, by decide⟩ rfl hl.1 rfl (Nat.le_of_ble_eq_true rfl) ⟨Nat.le_refl _, Nat.le_refl _⟩ dX7_begins_27) hW (fun H locs hV => ?_)
    replace hW := hV
    refine lv_if_ne (tgt := 43) X.1 X.2.1 dX7_begins_30 (by decide) (fun c136 => ?_) (fun c136 => ?_)
    · replace hf := zif_neg c136 hf
      exact w_X7_begins_43 X hr hlk hK0 hf hW (lv_sub hl [2, 1, 0] rfl)
    · replace hf := zif_pos c136 hf
      refine lv_aload_n X.1 X.2.1 dX7_begins_33 rfl (lv_at hl 2 rfl) ?_
      refine lv_iconst (v := 1) X.1 X.2.1 dX7_begins_34 (by decide) ?_
      refine lv_aload_n X.1 X.2.1 dX7_begins_35 rfl (lv_at hl 2 rfl) ?_
      refine ze_getI X 7 13 129 (RX7, TX7, 39) rfl hW hK0 rfl (by decide) kfl_X7_129 dX7_begins_36 ?_
      obtain ⟨v137, I138, h139, hg⟩ := zh_bd2 hf
      replace hf := hg
      refine ze_aftI0 (ze_runV (As := [.int (1 : Int32), .int (I a0 13)]) (rest := []) X 7 136 (c_X7_faults l D B n hK0 h139) vX7_faults kml_X7_136 hW hK0 rfl rfl ⟨by decide, by decide⟩ rfl hl.1 rfl (Nat.le_of_ble_eq_true rfl) ⟨Nat.le_refl _, Nat.le_refl _⟩ dX7_begins_39) hW (fun H locs hV => ?_)
      replace hW := hV
      obtain ⟨hv140, hg⟩ := zh_if hf
      replace hf := hg
      obtain ⟨rfl, rfl⟩ := zi2 hf
      exact ze_retZ X hr hlk hv140 hW (Nat.le_refl _) (Nat.le_refl _) dX7_begins_42
end

/-! LeastPatternsModel.reads()Z -/
def f_X7_reads_191 (F : Nat) (K : zK) (R : zR) (a0 : Nat)  (I : zI) : Option (Int32 × zI) :=
  some ((1 : Int32), I)
def g_X7_reads_54 (F : Nat) (K : zK) (R : zR) (a0 : Nat)  (kself : zI → Int32 → Option (Int32 × zI)) (I : zI) (x1 : Int32) : Option (Int32 × zI) :=
  if x1 = (0 : Int32) then
    if (I a0 13) = (I a0 3) then
      f_X7_reads_191 F K R a0 I
    else
      zbd2 (f_X7_faults F K I R a0 (1 : Int32) (I a0 13)) fun v3 I4 =>
      if v3 = (0 : Int32) then
        some ((0 : Int32), I4)
      else
        f_X7_reads_191 F K R a0 I4
  else
    if (I a0 14) = (0 : Int32) then
      if (I a0 12) = (0 : Int32) then
        kself I (0 : Int32)
      else
        zbd (f_X7_byteAt F K I R a0 (I a0 13)) fun v9 =>
        if v9 = (44 : Int32) then
          zbd (some (zup I a0 13 ((I a0 13) + (1 : Int32)))) fun I21 =>
          zbd (some (zup I21 a0 14 (1 : Int32))) fun I22 =>
          kself I22 x1
        else
          zbd (f_X7_byteAt F K I R a0 (I a0 13)) fun v12 =>
          if v12 = (41 : Int32) then
            zbd (some (zup I a0 13 ((I a0 13) + (1 : Int32)))) fun I19 =>
            zbd (some (zup I19 a0 12 ((I19 a0 12) - (1 : Int32)))) fun I20 =>
            kself I20 x1
          else
            zbd2 (f_X7_faults F K I R a0 (1 : Int32) (I a0 13)) fun v15 I16 =>
            if v15 = 0 ∨ v15 = 1 then
            some (v15, I16)
            else
            none
    else
      zbd (some (zup I a0 14 (0 : Int32))) fun I23 =>
      zbd2 (f_X7_begins F K I23 R a0) fun v24 I25 =>
      if v24 = (0 : Int32) then
        some ((0 : Int32), I25)
      else
        kself I25 x1
def f_X7_reads_54 (F : Nat) (K : zK) (R : zR) (a0 : Nat)  : Nat → zI → Int32 → Option (Int32 × zI)
  | 0, _, _ => none
  | t + 1, I, x1 => g_X7_reads_54 F K R a0  (f_X7_reads_54 F K R a0  t) I x1
def g_X7_reads_21 (F : Nat) (K : zK) (R : zR) (a0 : Nat)  (kself : zI → Int32 → Option (Int32 × zI)) (I : zI) (x1 : Int32) : Option (Int32 × zI) :=
  if (10 : Int32) ≤ x1 then
    zbd (some (R a0 11)) fun o29 =>
    zbd (zdr K o29 2) fun a30 =>
    zbd (zwrZ K I a30 (0 : Int32) (0 : Int32)) fun I33 =>
    zbd (some (zup I33 a0 14 (1 : Int32))) fun I34 =>
    f_X7_reads_54 F K R a0 F I34 (1 : Int32)
  else
    zbd (some (R a0 9)) fun o35 =>
    zbd (zdr K o35 1) fun a36 =>
    zbd (zwr K I a36 x1 (0 : Int32)) fun I39 =>
    kself I39 (x1 + (1 : Int32))
def f_X7_reads_21 (F : Nat) (K : zK) (R : zR) (a0 : Nat)  : Nat → zI → Int32 → Option (Int32 × zI)
  | 0, _, _ => none
  | t + 1, I, x1 => g_X7_reads_21 F K R a0  (f_X7_reads_21 F K R a0  t) I x1
def f_X7_reads (F : Nat) (K : zK) (I : zI) (R : zR) (a0 : Nat)  : Option (Int32 × zI) :=
  zbd (some (R a0 0)) fun o40 =>
  zbd (zdr K o40 1) fun a41 =>
  zbd (zwr K I a41 (5460 : Int32) (0 : Int32)) fun I44 =>
  zbd (some (zup I44 a0 12 (0 : Int32))) fun I45 =>
  zbd (some (zup I45 a0 13 (0 : Int32))) fun I46 =>
  f_X7_reads_21 F K R a0 F I46 (0 : Int32)
section
variable {p : Program} {l : Launch} {e : Env} {s : State} {m : MethodId} {args : Array Value} {below : List Frame} {meth : Method} {c : Code} {D : zD} {B n n0 n' fd ld : Nat} {K K0 K' : zK} {I I' : zI} {R R' : zR} {H : Heap} {locs : List Loc} {ls : Array Slot} {r : Int32}
set_option maxRecDepth 100000 in
set_option maxHeartbeats 4000000 in
theorem w_X7_reads_191 {F : Nat} {a0 : Nat}  (X : zX p s m c cX7_reads 2 RX7 D) (hr : meth.sig.returnType = some .boolean) (hlk : meth.locks = false) (hK0 : (K a0).1 = 17)   (hf : f_X7_reads_191 F K R a0  I = some (r, I')) (hW : zS (zOwn B K (B + n)) D B n K I R s.heap H locs) (hl : lv_has ls 2 [(0, .ref (B + a0))]) : W p l e ({ frames := 3, cells := 0, slots := 0, locals := 89 } : Room) s m args below meth c H locs 0 0 (MQ below (zQi D (zOwn B K (B + n)) r B n K I' R) args s 0 0 (zOwn B K (B + n))) (F0 m 191 ls []) := by
  unfold f_X7_reads_191 at hf
  refine lv_iconst (v := 1) X.1 X.2.1 dX7_reads_191 (by decide) ?_
  refine lv_goto (tgt := 196) X.1 X.2.1 dX7_reads_192 (by decide) ?_
  obtain ⟨rfl, rfl⟩ := zi2 hf
  exact ze_retZ X hr hlk (by decide) hW (Nat.le_refl _) (Nat.le_refl _) dX7_reads_196
set_option maxRecDepth 100000 in
set_option maxHeartbeats 4000000 in
theorem wg_X7_reads_54 {F : Nat} {a0 : Nat}  (X : zX p s m c cX7_reads 2 RX7 D) (hr : meth.sig.returnType = some .boolean) (hlk : meth.locks = false) (hK0 : (K a0).1 = 17)  {kself : zI → Int32 → Option (Int32 × zI)} (hkself : ∀ (I : zI) (x1 : Int32) (H : Heap) (locs : List Loc) (ls : Array Slot), kself I x1 = some (r, I') → zS (zOwn B K (B + n)) D B n K I R s.heap H locs → lv_has ls 2 [(0, .ref (B + a0)), (1, .int x1)] → W p l e ({ frames := 3, cells := 0, slots := 0, locals := 89 } : Room) s m args below meth c H locs 0 0 (MQ below (zQi D (zOwn B K (B + n)) r B n K I' R) args s 0 0 (zOwn B K (B + n))) (F0 m 54 ls [])) {x1 : Int32} (hf : g_X7_reads_54 F K R a0  kself I x1 = some (r, I')) (hW : zS (zOwn B K (B + n)) D B n K I R s.heap H locs) (hl : lv_has ls 2 [(0, .ref (B + a0)), (1, .int x1)]) : W p l e ({ frames := 3, cells := 0, slots := 0, locals := 89 } : Room) s m args below meth c H locs 0 0 (MQ below (zQi D (zOwn B K (B + n)) r B n K I' R) args s 0 0 (zOwn B K (B + n))) (F0 m 54 ls []) := by
  unfold g_X7_reads_54 at hf
  refine lv_iload_n X.1 X.2.1 dX7_reads_54 rfl (lv_at hl 1 rfl) ?_
  refine lv_if_eq (tgt := 168) X.1 X.2.1 dX7_reads_55 (by decide) (fun c1 => ?_) (fun c1 => ?_)
  · replace hf := zif_pos c1 hf
    refine lv_aload_n X.1 X.2.1 dX7_reads_168 rfl (lv_at hl 0 rfl) ?_
    refine ze_getI X 7 13 129 (RX7, TX7, 39) rfl hW hK0 rfl (by decide) kfl_X7_129 dX7_reads_169 ?_
    refine lv_aload_n X.1 X.2.1 dX7_reads_172 rfl (lv_at hl 0 rfl) ?_
    refine ze_getI X 7 3 126 (RX7, TX7, 39) rfl hW hK0 rfl (by decide) kfl_X7_126 dX7_reads_173 ?_
    refine lv_icmp_eq (tgt := 191) X.1 X.2.1 dX7_reads_176 (by decide) (fun c2 => ?_) (fun c2 => ?_)
    · replace hf := zif_pos c2 hf
      exact w_X7_reads_191 X hr hlk hK0 hf hW (lv_sub hl [0] rfl)
    · replace hf := zif_neg c2 hf
      refine lv_aload_n X.1 X.2.1 dX7_reads_179 rfl (lv_at hl 0 rfl) ?_
      refine lv_iconst (v := 1) X.1 X.2.1 dX7_reads_180 (by decide) ?_
      refine lv_aload_n X.1 X.2.1 dX7_reads_181 rfl (lv_at hl 0 rfl) ?_
      refine ze_getI X 7 13 129 (RX7, TX7, 39) rfl hW hK0 rfl (by decide) kfl_X7_129 dX7_reads_182 ?_
      obtain ⟨v3, I4, h5, hg⟩ := zh_bd2 hf
      replace hf := hg
      refine ze_aftI0 (ze_runV (As := [.int (1 : Int32), .int (I a0 13)]) (rest := []) X 7 136 (c_X7_faults l D B n hK0 h5) vX7_faults kml_X7_136 hW hK0 rfl rfl ⟨by decide, by decide⟩ rfl hl.1 rfl (Nat.le_of_ble_eq_true rfl) ⟨Nat.le_refl _, Nat.le_refl _⟩ dX7_reads_185) hW (fun H locs hV => ?_)
      replace hW := hV
      refine lv_if_eq (tgt := 195) X.1 X.2.1 dX7_reads_188 (by decide) (fun c6 => ?_) (fun c6 => ?_)
      · replace hf := zif_pos c6 hf
        refine lv_iconst (v := 0) X.1 X.2.1 dX7_reads_195 (by decide) ?_
        obtain ⟨rfl, rfl⟩ := zi2 hf
        exact ze_retZ X hr hlk (by decide) hW (Nat.le_refl _) (Nat.le_refl _) dX7_reads_196
      · replace hf := zif_neg c6 hf
        exact w_X7_reads_191 X hr hlk hK0 hf hW (lv_sub hl [0] rfl)
  · replace hf := zif_neg c1 hf
    refine lv_aload_n X.1 X.2.1 dX7_reads_58 rfl (lv_at hl 0 rfl) ?_
    refine ze_getI X 7 14 147 (RX7, TX7, 39) rfl hW hK0 rfl (by decide) kfl_X7_147 dX7_reads_59 ?_
    refine lv_if_eq (tgt := 79) X.1 X.2.1 dX7_reads_62 (by decide) (fun c7 => ?_) (fun c7 => ?_)
    · replace hf := zif_pos c7 hf
      refine lv_aload_n X.1 X.2.1 dX7_reads_79 rfl (lv_at hl 0 rfl) ?_
      refine ze_getI X 7 12 140 (RX7, TX7, 39) rfl hW hK0 rfl (by decide) kfl_X7_140 dX7_reads_80 ?_
      refine lv_if_ne (tgt := 91) X.1 X.2.1 dX7_reads_83 (by decide) (fun c8 => ?_) (fun c8 => ?_)
      · replace hf := zif_neg c8 hf
        refine lv_aload_n X.1 X.2.1 dX7_reads_91 rfl (lv_at hl 0 rfl) ?_
        refine lv_aload_n X.1 X.2.1 dX7_reads_92 rfl (lv_at hl 0 rfl) ?_
        refine ze_getI X 7 13 129 (RX7, TX7, 39) rfl hW hK0 rfl (by decide) kfl_X7_129 dX7_reads_93 ?_
        obtain ⟨v9, h10, hg⟩ := zh_bd hf
        replace hf := hg
        refine ze_aftI0 (ze_runV (As := [.int (I a0 13)]) (rest := []) X 7 132 (c_X7_byteAt l D B n hK0 h10) vX7_byteAt kml_X7_132 hW hK0 rfl rfl ⟨by decide, by decide⟩ rfl hl.1 rfl (Nat.le_of_ble_eq_true rfl) ⟨Nat.le_refl _, Nat.le_refl _⟩ dX7_reads_96) hW (fun H locs hV => ?_)
        replace hW := hV
        refine lv_bipush (v := 44) X.1 X.2.1 dX7_reads_99 (by decide) ?_
        refine lv_icmp_ne (tgt := 122) X.1 X.2.1 dX7_reads_101 (by decide) (fun c11 => ?_) (fun c11 => ?_)
        · replace hf := zif_neg c11 hf
          refine lv_aload_n X.1 X.2.1 dX7_reads_122 rfl (lv_at hl 0 rfl) ?_
          refine lv_aload_n X.1 X.2.1 dX7_reads_123 rfl (lv_at hl 0 rfl) ?_
          refine ze_getI X 7 13 129 (RX7, TX7, 39) rfl hW hK0 rfl (by decide) kfl_X7_129 dX7_reads_124 ?_
          obtain ⟨v12, h13, hg⟩ := zh_bd hf
          replace hf := hg
          refine ze_aftI0 (ze_runV (As := [.int (I a0 13)]) (rest := []) X 7 132 (c_X7_byteAt l D B n hK0 h13) vX7_byteAt kml_X7_132 hW hK0 rfl rfl ⟨by decide, by decide⟩ rfl hl.1 rfl (Nat.le_of_ble_eq_true rfl) ⟨Nat.le_refl _, Nat.le_refl _⟩ dX7_reads_127) hW (fun H locs hV => ?_)
          replace hW := hV
          refine lv_bipush (v := 41) X.1 X.2.1 dX7_reads_130 (by decide) ?_
          refine lv_icmp_ne (tgt := 158) X.1 X.2.1 dX7_reads_132 (by decide) (fun c14 => ?_) (fun c14 => ?_)
          · replace hf := zif_neg c14 hf
            refine lv_aload_n X.1 X.2.1 dX7_reads_158 rfl (lv_at hl 0 rfl) ?_
            refine lv_iconst (v := 1) X.1 X.2.1 dX7_reads_159 (by decide) ?_
            refine lv_aload_n X.1 X.2.1 dX7_reads_160 rfl (lv_at hl 0 rfl) ?_
            refine ze_getI X 7 13 129 (RX7, TX7, 39) rfl hW hK0 rfl (by decide) kfl_X7_129 dX7_reads_161 ?_
            obtain ⟨v15, I16, h17, hg⟩ := zh_bd2 hf
            replace hf := hg
            refine ze_aftI0 (ze_runV (As := [.int (1 : Int32), .int (I a0 13)]) (rest := []) X 7 136 (c_X7_faults l D B n hK0 h17) vX7_faults kml_X7_136 hW hK0 rfl rfl ⟨by decide, by decide⟩ rfl hl.1 rfl (Nat.le_of_ble_eq_true rfl) ⟨Nat.le_refl _, Nat.le_refl _⟩ dX7_reads_164) hW (fun H locs hV => ?_)
            replace hW := hV
            obtain ⟨hv18, hg⟩ := zh_if hf
            replace hf := hg
            obtain ⟨rfl, rfl⟩ := zi2 hf
            exact ze_retZ X hr hlk hv18 hW (Nat.le_refl _) (Nat.le_refl _) dX7_reads_167
          · replace hf := zif_pos c14 hf
            refine lv_aload_n X.1 X.2.1 dX7_reads_135 rfl (lv_at hl 0 rfl) ?_
            refine lv_dup X.1 X.2.1 dX7_reads_136 rfl ?_
            refine ze_getI X 7 13 129 (RX7, TX7, 39) rfl hW hK0 rfl (by decide) kfl_X7_129 dX7_reads_137 ?_
            refine lv_iconst (v := 1) X.1 X.2.1 dX7_reads_140 (by decide) ?_
            refine lv_iadd X.1 X.2.1 dX7_reads_141 ?_
            refine ze_putI X 7 13 129 (RX7, TX7, 39) rfl hf hW hK0 rfl (by decide) kfl_X7_129 rfl (by decide +kernel) dX7_reads_142 (fun I19 H locs hg hV => ?_)
            replace hf := hg
            replace hW := hV
            refine lv_aload_n X.1 X.2.1 dX7_reads_145 rfl (lv_at hl 0 rfl) ?_
            refine lv_dup X.1 X.2.1 dX7_reads_146 rfl ?_
            refine ze_getI X 7 12 140 (RX7, TX7, 39) rfl hW hK0 rfl (by decide) kfl_X7_140 dX7_reads_147 ?_
            refine lv_iconst (v := 1) X.1 X.2.1 dX7_reads_150 (by decide) ?_
            refine lv_isub X.1 X.2.1 dX7_reads_151 ?_
            refine ze_putI X 7 12 140 (RX7, TX7, 39) rfl hf hW hK0 rfl (by decide) kfl_X7_140 rfl (by decide +kernel) dX7_reads_152 (fun I20 H locs hg hV => ?_)
            replace hf := hg
            replace hW := hV
            refine lv_goto (tgt := 54) X.1 X.2.1 dX7_reads_155 (by decide) ?_
            exact hkself _ _ _ _ _ hf hW hl
        · replace hf := zif_pos c11 hf
          refine lv_aload_n X.1 X.2.1 dX7_reads_104 rfl (lv_at hl 0 rfl) ?_
          refine lv_dup X.1 X.2.1 dX7_reads_105 rfl ?_
          refine ze_getI X 7 13 129 (RX7, TX7, 39) rfl hW hK0 rfl (by decide) kfl_X7_129 dX7_reads_106 ?_
          refine lv_iconst (v := 1) X.1 X.2.1 dX7_reads_109 (by decide) ?_
          refine lv_iadd X.1 X.2.1 dX7_reads_110 ?_
          refine ze_putI X 7 13 129 (RX7, TX7, 39) rfl hf hW hK0 rfl (by decide) kfl_X7_129 rfl (by decide +kernel) dX7_reads_111 (fun I21 H locs hg hV => ?_)
          replace hf := hg
          replace hW := hV
          refine lv_aload_n X.1 X.2.1 dX7_reads_114 rfl (lv_at hl 0 rfl) ?_
          refine lv_iconst (v := 1) X.1 X.2.1 dX7_reads_115 (by decide) ?_
          refine ze_putZ X 7 14 147 (RX7, TX7, 39) rfl (by decide) hf hW hK0 rfl (by decide) kfl_X7_147 rfl (by decide +kernel) dX7_reads_116 (fun I22 H locs hg hV => ?_)
          replace hf := hg
          replace hW := hV
          refine lv_goto (tgt := 54) X.1 X.2.1 dX7_reads_119 (by decide) ?_
          exact hkself _ _ _ _ _ hf hW hl
      · replace hf := zif_pos c8 hf
        refine lv_iconst (v := 0) X.1 X.2.1 dX7_reads_86 (by decide) ?_
        refine lv_istore_n (i := 1) (lv' := [(1, .int (0 : Int32)), (0, .ref (B + a0))]) X.1 X.2.1 dX7_reads_87 rfl hl (by decide) rfl (fun ls hk => ?_)
        replace hl := hk
        refine lv_goto (tgt := 54) X.1 X.2.1 dX7_reads_88 (by decide) ?_
        exact hkself _ _ _ _ _ hf hW (lv_sub hl [1, 0] rfl)
    · replace hf := zif_neg c7 hf
      refine lv_aload_n X.1 X.2.1 dX7_reads_65 rfl (lv_at hl 0 rfl) ?_
      refine lv_iconst (v := 0) X.1 X.2.1 dX7_reads_66 (by decide) ?_
      refine ze_putZ X 7 14 147 (RX7, TX7, 39) rfl (by decide) hf hW hK0 rfl (by decide) kfl_X7_147 rfl (by decide +kernel) dX7_reads_67 (fun I23 H locs hg hV => ?_)
      replace hf := hg
      replace hW := hV
      refine lv_aload_n X.1 X.2.1 dX7_reads_70 rfl (lv_at hl 0 rfl) ?_
      obtain ⟨v24, I25, h26, hg⟩ := zh_bd2 hf
      replace hf := hg
      refine ze_aftI0 (ze_runV (As := []) (rest := []) X 7 151 (c_X7_begins l D B n hK0 h26) vX7_begins kml_X7_151 hW hK0 rfl rfl ⟨by decide, by decide⟩ rfl hl.1 rfl (Nat.le_of_ble_eq_true rfl) ⟨Nat.le_refl _, Nat.le_refl _⟩ dX7_reads_71) hW (fun H locs hV => ?_)
      replace hW := hV
      refine lv_if_ne (tgt := 54) X.1 X.2.1 dX7_reads_74 (by decide) (fun c27 => ?_) (fun c27 => ?_)
      · replace hf := zif_neg c27 hf
        exact hkself _ _ _ _ _ hf hW hl
      · replace hf := zif_pos c27 hf
        refine lv_iconst (v := 0) X.1 X.2.1 dX7_reads_77 (by decide) ?_
        obtain ⟨rfl, rfl⟩ := zi2 hf
        exact ze_retZ X hr hlk (by decide) hW (Nat.le_refl _) (Nat.le_refl _) dX7_reads_78
set_option maxRecDepth 100000 in
set_option maxHeartbeats 4000000 in
theorem w_X7_reads_54 {F : Nat} {a0 : Nat}  (X : zX p s m c cX7_reads 2 RX7 D) (hr : meth.sig.returnType = some .boolean) (hlk : meth.locks = false) (hK0 : (K a0).1 = 17)  {t : Nat} {x1 : Int32} (hf : f_X7_reads_54 F K R a0  t I x1 = some (r, I')) (hW : zS (zOwn B K (B + n)) D B n K I R s.heap H locs) (hl : lv_has ls 2 [(0, .ref (B + a0)), (1, .int x1)]) : W p l e ({ frames := 3, cells := 0, slots := 0, locals := 89 } : Room) s m args below meth c H locs 0 0 (MQ below (zQi D (zOwn B K (B + n)) r B n K I' R) args s 0 0 (zOwn B K (B + n))) (F0 m 54 ls []) := by
  have key : ∀ t : Nat, ∀ (I : zI) (x1 : Int32) (H : Heap) (locs : List Loc) (ls : Array Slot), f_X7_reads_54 F K R a0  t I x1 = some (r, I') → zS (zOwn B K (B + n)) D B n K I R s.heap H locs → lv_has ls 2 [(0, .ref (B + a0)), (1, .int x1)] → W p l e ({ frames := 3, cells := 0, slots := 0, locals := 89 } : Room) s m args below meth c H locs 0 0 (MQ below (zQi D (zOwn B K (B + n)) r B n K I' R) args s 0 0 (zOwn B K (B + n))) (F0 m 54 ls []) := by
    intro t
    induction t with
    | zero =>
      intro I x1 H locs ls hf hW hl
      cases hf
    | succ t ih =>
      intro I x1 H locs ls hf hW hl
      exact wg_X7_reads_54 X hr hlk hK0  ih hf hW hl
  exact key t _ _ _ _ _ hf hW hl
set_option maxRecDepth 100000 in
set_option maxHeartbeats 4000000 in
theorem wg_X7_reads_21 {F : Nat} {a0 : Nat}  (X : zX p s m c cX7_reads 2 RX7 D) (hr : meth.sig.returnType = some .boolean) (hlk : meth.locks = false) (hK0 : (K a0).1 = 17)  {kself : zI → Int32 → Option (Int32 × zI)} (hkself : ∀ (I : zI) (x1 : Int32) (H : Heap) (locs : List Loc) (ls : Array Slot), kself I x1 = some (r, I') → zS (zOwn B K (B + n)) D B n K I R s.heap H locs → lv_has ls 2 [(0, .ref (B + a0)), (1, .int x1)] → W p l e ({ frames := 3, cells := 0, slots := 0, locals := 89 } : Room) s m args below meth c H locs 0 0 (MQ below (zQi D (zOwn B K (B + n)) r B n K I' R) args s 0 0 (zOwn B K (B + n))) (F0 m 21 ls [])) {x1 : Int32} (hf : g_X7_reads_21 F K R a0  kself I x1 = some (r, I')) (hW : zS (zOwn B K (B + n)) D B n K I R s.heap H locs) (hl : lv_has ls 2 [(0, .ref (B + a0)), (1, .int x1)]) : W p l e ({ frames := 3, cells := 0, slots := 0, locals := 89 } : Room) s m args below meth c H locs 0 0 (MQ below (zQi D (zOwn B K (B + n)) r B n K I' R) args s 0 0 (zOwn B K (B + n))) (F0 m 21 ls []) := by
  unfold g_X7_reads_21 at hf
  refine lv_iload_n X.1 X.2.1 dX7_reads_21 rfl (lv_at hl 1 rfl) ?_
  refine lv_bipush (v := 10) X.1 X.2.1 dX7_reads_22 (by decide) ?_
  refine lv_icmp_ge (tgt := 40) X.1 X.2.1 dX7_reads_24 (by decide) (fun c28 => ?_) (fun c28 => ?_)
  · replace hf := zif_pos c28 hf
    refine lv_aload_n X.1 X.2.1 dX7_reads_40 rfl (lv_at hl 0 rfl) ?_
    refine ze_gtR X 7 11 38 (RX7, TX7, 39) rfl hf hW hK0 rfl (by decide) kfl_X7_38 dX7_reads_41 (fun o29 hg => ?_)
    replace hf := hg
    refine lv_iconst (v := 0) X.1 X.2.1 dX7_reads_44 (by decide) ?_
    refine lv_iconst (v := 0) X.1 X.2.1 dX7_reads_45 (by decide) ?_
    obtain ⟨a30, rfl, k32, hg⟩ := zh_dr hf
    replace hf := hg
    refine ze_zast X hf hW k32 dX7_reads_46 (fun I33 H locs hg hV => ?_)
    replace hf := hg
    replace hW := hV
    refine lv_aload_n X.1 X.2.1 dX7_reads_47 rfl (lv_at hl 0 rfl) ?_
    refine lv_iconst (v := 1) X.1 X.2.1 dX7_reads_48 (by decide) ?_
    refine ze_putZ X 7 14 147 (RX7, TX7, 39) rfl (by decide) hf hW hK0 rfl (by decide) kfl_X7_147 rfl (by decide +kernel) dX7_reads_49 (fun I34 H locs hg hV => ?_)
    replace hf := hg
    replace hW := hV
    refine lv_iconst (v := 1) X.1 X.2.1 dX7_reads_52 (by decide) ?_
    refine lv_istore_n (i := 1) (lv' := [(1, .int (1 : Int32)), (0, .ref (B + a0))]) X.1 X.2.1 dX7_reads_53 rfl hl (by decide) rfl (fun ls hk => ?_)
    replace hl := hk
    exact w_X7_reads_54 X hr hlk hK0 hf hW (lv_sub hl [1, 0] rfl)
  · replace hf := zif_neg c28 hf
    refine lv_aload_n X.1 X.2.1 dX7_reads_27 rfl (lv_at hl 0 rfl) ?_
    refine ze_gtR X 7 9 32 (RX7, TX7, 39) rfl hf hW hK0 rfl (by decide) kfl_X7_32 dX7_reads_28 (fun o35 hg => ?_)
    replace hf := hg
    refine lv_iload_n X.1 X.2.1 dX7_reads_31 rfl (lv_at hl 1 rfl) ?_
    refine lv_iconst (v := 0) X.1 X.2.1 dX7_reads_32 (by decide) ?_
    obtain ⟨a36, rfl, k38, hg⟩ := zh_dr hf
    replace hf := hg
    refine ze_iast X hf hW k38 dX7_reads_33 (fun I39 H locs hg hV => ?_)
    replace hf := hg
    replace hW := hV
    refine ze_iinc (lv' := [(1, .int (x1 + (1 : Int32))), (0, .ref (B + a0))]) (d := 1) X.1 X.2.1 dX7_reads_34 hl (k := 1) rfl (by decide) (by decide) rfl (fun ls hk => ?_)
    replace hl := hk
    refine lv_goto (tgt := 21) X.1 X.2.1 dX7_reads_37 (by decide) ?_
    exact hkself _ _ _ _ _ hf hW (lv_sub hl [1, 0] rfl)
set_option maxRecDepth 100000 in
set_option maxHeartbeats 4000000 in
theorem w_X7_reads_21 {F : Nat} {a0 : Nat}  (X : zX p s m c cX7_reads 2 RX7 D) (hr : meth.sig.returnType = some .boolean) (hlk : meth.locks = false) (hK0 : (K a0).1 = 17)  {t : Nat} {x1 : Int32} (hf : f_X7_reads_21 F K R a0  t I x1 = some (r, I')) (hW : zS (zOwn B K (B + n)) D B n K I R s.heap H locs) (hl : lv_has ls 2 [(0, .ref (B + a0)), (1, .int x1)]) : W p l e ({ frames := 3, cells := 0, slots := 0, locals := 89 } : Room) s m args below meth c H locs 0 0 (MQ below (zQi D (zOwn B K (B + n)) r B n K I' R) args s 0 0 (zOwn B K (B + n))) (F0 m 21 ls []) := by
  have key : ∀ t : Nat, ∀ (I : zI) (x1 : Int32) (H : Heap) (locs : List Loc) (ls : Array Slot), f_X7_reads_21 F K R a0  t I x1 = some (r, I') → zS (zOwn B K (B + n)) D B n K I R s.heap H locs → lv_has ls 2 [(0, .ref (B + a0)), (1, .int x1)] → W p l e ({ frames := 3, cells := 0, slots := 0, locals := 89 } : Room) s m args below meth c H locs 0 0 (MQ below (zQi D (zOwn B K (B + n)) r B n K I' R) args s 0 0 (zOwn B K (B + n))) (F0 m 21 ls []) := by
    intro t
    induction t with
    | zero =>
      intro I x1 H locs ls hf hW hl
      cases hf
    | succ t ih =>
      intro I x1 H locs ls hf hW hl
      exact wg_X7_reads_21 X hr hlk hK0  ih hf hW hl
  exact key t _ _ _ _ _ hf hW hl
set_option maxRecDepth 100000 in
set_option maxHeartbeats 4000000 in
theorem c_X7_reads (l : Launch) (D : zD) (B n : Nat) {F : Nat} {K : zK} {I : zI} {R : zR} {a0 : Nat}  {r : Int32} {I' : zI} (hK0 : (K a0).1 = 17) (hf : f_X7_reads F K I R a0  = some (r, I')) : zM l yX7_reads cX7_reads 2 (some .boolean) ({ frames := 3, cells := 0, slots := 0, locals := 89 } : Room) D B n K I R [.ref (B + a0)] (zQi D (zOwn B K (B + n)) r B n K I' R) := by
  refine ze_entry (lv0 := [(0, .ref (B + a0))]) (by decide) (by simp [lg_sl, zcat, zcat_i, zcat_r, zcat_l]) (by simp [lv_args, zcat, zcat_i, zcat_r, zcat_l]) (fun p e s m below meth c X hr hlk hin hW ls hl => ?_)
  unfold f_X7_reads at hf
  refine lv_aload_n X.1 X.2.1 dX7_reads_0 rfl (lv_at hl 0 rfl) ?_
  refine ze_gtR X 7 0 7 (RX7, TX7, 39) rfl hf hW hK0 rfl (by decide) kfl_X7_7 dX7_reads_1 (fun o40 hg => ?_)
  replace hf := hg
  refine lv_sipush (v := 5460) X.1 X.2.1 dX7_reads_4 (by decide) ?_
  refine lv_iconst (v := 0) X.1 X.2.1 dX7_reads_7 (by decide) ?_
  obtain ⟨a41, rfl, k43, hg⟩ := zh_dr hf
  replace hf := hg
  refine ze_iast X hf hW k43 dX7_reads_8 (fun I44 H locs hg hV => ?_)
  replace hf := hg
  replace hW := hV
  refine lv_aload_n X.1 X.2.1 dX7_reads_9 rfl (lv_at hl 0 rfl) ?_
  refine lv_iconst (v := 0) X.1 X.2.1 dX7_reads_10 (by decide) ?_
  refine ze_putI X 7 12 140 (RX7, TX7, 39) rfl hf hW hK0 rfl (by decide) kfl_X7_140 rfl (by decide +kernel) dX7_reads_11 (fun I45 H locs hg hV => ?_)
  replace hf := hg
  replace hW := hV
  refine lv_aload_n X.1 X.2.1 dX7_reads_14 rfl (lv_at hl 0 rfl) ?_
  refine lv_iconst (v := 0) X.1 X.2.1 dX7_reads_15 (by decide) ?_
  refine ze_putI X 7 13 129 (RX7, TX7, 39) rfl hf hW hK0 rfl (by decide) kfl_X7_129 rfl (by decide +kernel) dX7_reads_16 (fun I46 H locs hg hV => ?_)
  replace hf := hg
  replace hW := hV
  refine lv_iconst (v := 0) X.1 X.2.1 dX7_reads_19 (by decide) ?_
  refine lv_istore_n (i := 1) (lv' := [(1, .int (0 : Int32)), (0, .ref (B + a0))]) X.1 X.2.1 dX7_reads_20 rfl hl (by decide) rfl (fun ls hk => ?_)
  replace hl := hk
  exact w_X7_reads_21 X hr hlk hK0 hf hW (lv_sub hl [1, 0] rfl)
end

/-! LeastPatternsModel.isSet(II)Z -/
def f_X7_isSet (F : Nat) (K : zK) (I : zI) (R : zR) (a0 : Nat) (x1 : Int32) (x2 : Int32) : Option (Int32) :=
  zbd (some (R a0 0)) fun o1 =>
  zbd (zdr K o1 1) fun a2 =>
  zbd (zrd K I a2 ((776 : Int32) + x1)) fun v5 =>
  if ((v5 >>> (x2 &&& 31)) &&& (1 : Int32)) = (1 : Int32) then
    some (1 : Int32)
  else
    some (0 : Int32)
section
variable {p : Program} {l : Launch} {e : Env} {s : State} {m : MethodId} {args : Array Value} {below : List Frame} {meth : Method} {c : Code} {D : zD} {B n n0 n' fd ld : Nat} {K K0 K' : zK} {I I' : zI} {R R' : zR} {H : Heap} {locs : List Loc} {ls : Array Slot} {r : Int32}
set_option maxRecDepth 100000 in
set_option maxHeartbeats 4000000 in
theorem c_X7_isSet (l : Launch) (D : zD) (B n : Nat) {F : Nat} {K : zK} {I : zI} {R : zR} {a0 : Nat} {x1 : Int32} {x2 : Int32} {r : Int32} (hK0 : (K a0).1 = 17) (hf : f_X7_isSet F K I R a0 x1 x2 = some r) : zM l yX7_isSet cX7_isSet 3 (some .boolean) ({ frames := 1, cells := 0, slots := 0, locals := 40 } : Room) D B n K I R [.ref (B + a0), .int x1, .int x2] (zQi D (zOwn B K (B + n)) r B n K I R) := by
  refine ze_entry (lv0 := [(0, .ref (B + a0)), (1, .int x1), (2, .int x2)]) (by decide) (by simp [lg_sl, zcat, zcat_i, zcat_r, zcat_l]) (by simp [lv_args, zcat, zcat_i, zcat_r, zcat_l]) (fun p e s m below meth c X hr hlk hin hW ls hl => ?_)
  unfold f_X7_isSet at hf
  refine lv_aload_n X.1 X.2.1 dX7_isSet_0 rfl (lv_at hl 0 rfl) ?_
  refine ze_gtR X 7 0 7 (RX7, TX7, 39) rfl hf hW hK0 rfl (by decide) kfl_X7_7 dX7_isSet_1 (fun o1 hg => ?_)
  replace hf := hg
  refine lv_sipush (v := 776) X.1 X.2.1 dX7_isSet_4 (by decide) ?_
  refine lv_iload_n X.1 X.2.1 dX7_isSet_7 rfl (lv_at hl 1 rfl) ?_
  refine lv_iadd X.1 X.2.1 dX7_isSet_8 ?_
  obtain ⟨a2, rfl, k4, hg⟩ := zh_dr hf
  replace hf := hg
  refine ze_iald X hf hW k4 dX7_isSet_9 (fun v5 hg => ?_)
  replace hf := hg
  refine lv_iload_n X.1 X.2.1 dX7_isSet_10 rfl (lv_at hl 2 rfl) ?_
  refine lv_ishr X.1 X.2.1 dX7_isSet_11 ?_
  refine lv_iconst (v := 1) X.1 X.2.1 dX7_isSet_12 (by decide) ?_
  refine lv_iand X.1 X.2.1 dX7_isSet_13 ?_
  refine lv_iconst (v := 1) X.1 X.2.1 dX7_isSet_14 (by decide) ?_
  refine lv_icmp_ne (tgt := 22) X.1 X.2.1 dX7_isSet_15 (by decide) (fun c6 => ?_) (fun c6 => ?_)
  · replace hf := zif_neg c6 hf
    refine lv_iconst (v := 0) X.1 X.2.1 dX7_isSet_22 (by decide) ?_
    obtain rfl := zi1 hf
    exact ze_retZ X hr hlk (by decide) hW (Nat.le_refl _) (Nat.le_refl _) dX7_isSet_23
  · replace hf := zif_pos c6 hf
    refine lv_iconst (v := 1) X.1 X.2.1 dX7_isSet_18 (by decide) ?_
    refine lv_goto (tgt := 23) X.1 X.2.1 dX7_isSet_19 (by decide) ?_
    obtain rfl := zi1 hf
    exact ze_retZ X hr hlk (by decide) hW (Nat.le_refl _) (Nat.le_refl _) dX7_isSet_23
end

/-! LeastPatternsModel.flattens()V -/
def f_X7_flattens_208 (F : Nat) (K : zK) (R : zR) (a0 : Nat) (k9 : zI → Int32 → Option (zI)) (I : zI) (x1 : Int32) : Option (zI) :=
  k9 I x1
def g_X7_flattens_140 (F : Nat) (K : zK) (R : zR) (a0 : Nat) (k9 : zI → Int32 → Option (zI)) (kself : zI → Int32 → Int32 → Option (zI)) (I : zI) (x1 : Int32) (x4 : Int32) : Option (zI) :=
  zbd (some (R a0 0)) fun o1 =>
  zbd (zdr K o1 1) fun a2 =>
  zbd (zrd K I a2 (5460 : Int32)) fun v5 =>
  if ((5461 : Int32) + ((3 : Int32) * v5)) ≤ (x4 + (3 : Int32)) then
    zbd (some (R a0 0)) fun o7 =>
    zbd (zdr K o7 1) fun a8 =>
    zbd (zrd K I a8 (5460 : Int32)) fun v11 =>
    zbd (zwr K I a8 (5460 : Int32) (v11 - (1 : Int32))) fun I12 =>
    zbd (f_X7_levels F K I12 R a0 (5460 : Int32)) fun I13 =>
    f_X7_flattens_208 F K R a0 k9 I13 x1
  else
    zbd (some (R a0 0)) fun o15 =>
    zbd (some (R a0 0)) fun o16 =>
    zbd (zdr K o16 1) fun a17 =>
    zbd (zrd K I a17 (x4 + (3 : Int32))) fun v20 =>
    zbd (zdr K o15 1) fun a21 =>
    zbd (zwr K I a21 x4 v20) fun I24 =>
    kself I24 x1 (x4 + (1 : Int32))
def f_X7_flattens_140 (F : Nat) (K : zK) (R : zR) (a0 : Nat) (k9 : zI → Int32 → Option (zI)) : Nat → zI → Int32 → Int32 → Option (zI)
  | 0, _, _, _ => none
  | t + 1, I, x1, x4 => g_X7_flattens_140 F K R a0 k9 (f_X7_flattens_140 F K R a0 k9 t) I x1 x4
def f_X7_flattens_101 (F : Nat) (K : zK) (R : zR) (a0 : Nat) (k9 : zI → Int32 → Option (zI)) (I : zI) (x1 : Int32) (x2 : Int32) (s0 : Int32) : Option (zI) :=
  if s0 = (0 : Int32) then
    f_X7_flattens_208 F K R a0 k9 I (x1 + (1 : Int32))
  else
    zbd (some (R a0 0)) fun o26 =>
    zbd (zdr K o26 1) fun a27 =>
    zbd (zrd K I a27 ((5463 : Int32) + ((3 : Int32) * x2))) fun v30 =>
    zbd (f_X7_arguments F K I R a0 (5460 : Int32) x1) fun v31 =>
    zbd (zwr K I a27 ((5463 : Int32) + ((3 : Int32) * x2)) (v30 + (v31 - (1 : Int32)))) fun I33 =>
    zbd (some ((5461 : Int32) + ((3 : Int32) * x1))) fun v34 =>
    f_X7_flattens_140 F K R a0 k9 F I33 x1 v34
def f_X7_flattens_100 (F : Nat) (K : zK) (R : zR) (a0 : Nat) (k9 : zI → Int32 → Option (zI)) (I : zI) (x1 : Int32) (x2 : Int32) : Option (zI) :=
  f_X7_flattens_101 F K R a0 k9 I x1 x2 (0 : Int32)
def g_X7_flattens_9 (F : Nat) (K : zK) (R : zR) (a0 : Nat)  (kself : zI → Int32 → Option (zI)) (I : zI) (x1 : Int32) : Option (zI) :=
  zbd (some (R a0 0)) fun o35 =>
  zbd (zdr K o35 1) fun a36 =>
  zbd (zrd K I a36 (5460 : Int32)) fun v39 =>
  if v39 ≤ x1 then
    some I
  else
    zbd (some (R a0 8)) fun o41 =>
    zbd (zdr K o41 1) fun a42 =>
    zbd (zrd K I a42 x1) fun v45 =>
    zbd (f_X7_sort F K I R a0 (5460 : Int32) x1) fun v46 =>
    if v46 = (0 : Int32) then
      zbd (f_X7_sort F K I R a0 (5460 : Int32) v45) fun v49 =>
      if v49 = (0 : Int32) then
        zbd (f_X7_number F K I R a0 (5460 : Int32) x1) fun v52 =>
        zbd (f_X7_number F K I R a0 (5460 : Int32) v45) fun v54 =>
        if v52 = v54 then
          zbd (f_X7_arguments F K I R a0 (5460 : Int32) x1) fun v57 =>
          if v57 ≤ (0 : Int32) then
            f_X7_flattens_100 F K R a0 kself I x1 v45
          else
            zbd (f_X7_number F K I R a0 (5460 : Int32) x1) fun v60 =>
            zbd (f_X7_isSet F K I R a0 (2 : Int32) v60) fun v62 =>
            if v62 = (0 : Int32) then
              f_X7_flattens_100 F K R a0 kself I x1 v45
            else
              f_X7_flattens_101 F K R a0 kself I x1 v45 (1 : Int32)
        else
          f_X7_flattens_100 F K R a0 kself I x1 v45
      else
        f_X7_flattens_100 F K R a0 kself I x1 v45
    else
      f_X7_flattens_100 F K R a0 kself I x1 v45
def f_X7_flattens_9 (F : Nat) (K : zK) (R : zR) (a0 : Nat)  : Nat → zI → Int32 → Option (zI)
  | 0, _, _ => none
  | t + 1, I, x1 => g_X7_flattens_9 F K R a0  (f_X7_flattens_9 F K R a0  t) I x1
def f_X7_flattens (F : Nat) (K : zK) (I : zI) (R : zR) (a0 : Nat)  : Option (zI) :=
  zbd (f_X7_levels F K I R a0 (5460 : Int32)) fun I65 =>
  f_X7_flattens_9 F K R a0 F I65 (1 : Int32)
section
variable {p : Program} {l : Launch} {e : Env} {s : State} {m : MethodId} {args : Array Value} {below : List Frame} {meth : Method} {c : Code} {D : zD} {B n n0 n' fd ld : Nat} {K K0 K' : zK} {I I' : zI} {R R' : zR} {H : Heap} {locs : List Loc} {ls : Array Slot} {r : Int32}
set_option maxRecDepth 100000 in
set_option maxHeartbeats 4000000 in
theorem w_X7_flattens_208 {F : Nat} {a0 : Nat} {k9 : zI → Int32 → Option (zI)} (X : zX p s m c cX7_flattens 5 RX7 D) (hr : meth.sig.returnType = none) (hlk : meth.locks = false) (hK0 : (K a0).1 = 17) (hk9 : ∀ (I : zI) (x1 : Int32) (H : Heap) (locs : List Loc) (ls : Array Slot), k9 I x1 = some I' → zS (zOwn B K (B + n)) D B n K I R s.heap H locs → lv_has ls 5 [(0, .ref (B + a0)), (1, .int x1)] → W p l e ({ frames := 4, cells := 0, slots := 0, locals := 111 } : Room) s m args below meth c H locs 0 0 (MQ below (zQv D (zOwn B K (B + n)) B n K I' R) args s 0 0 (zOwn B K (B + n))) (F0 m 9 ls [])) {x1 : Int32} (hf : f_X7_flattens_208 F K R a0 k9 I x1 = some I') (hW : zS (zOwn B K (B + n)) D B n K I R s.heap H locs) (hl : lv_has ls 5 [(0, .ref (B + a0)), (1, .int x1)]) : W p l e ({ frames := 4, cells := 0, slots := 0, locals := 111 } : Room) s m args below meth c H locs 0 0 (MQ below (zQv D (zOwn B K (B + n)) B n K I' R) args s 0 0 (zOwn B K (B + n))) (F0 m 208 ls []) := by
  unfold f_X7_flattens_208 at hf
  refine lv_goto (tgt := 9) X.1 X.2.1 dX7_flattens_208 (by decide) ?_
  exact hk9 _ _ _ _ _ hf hW hl
set_option maxRecDepth 100000 in
set_option maxHeartbeats 4000000 in
theorem wg_X7_flattens_140 {F : Nat} {a0 : Nat} {k9 : zI → Int32 → Option (zI)} (X : zX p s m c cX7_flattens 5 RX7 D) (hr : meth.sig.returnType = none) (hlk : meth.locks = false) (hK0 : (K a0).1 = 17) (hk9 : ∀ (I : zI) (x1 : Int32) (H : Heap) (locs : List Loc) (ls : Array Slot), k9 I x1 = some I' → zS (zOwn B K (B + n)) D B n K I R s.heap H locs → lv_has ls 5 [(0, .ref (B + a0)), (1, .int x1)] → W p l e ({ frames := 4, cells := 0, slots := 0, locals := 111 } : Room) s m args below meth c H locs 0 0 (MQ below (zQv D (zOwn B K (B + n)) B n K I' R) args s 0 0 (zOwn B K (B + n))) (F0 m 9 ls [])) {kself : zI → Int32 → Int32 → Option (zI)} (hkself : ∀ (I : zI) (x1 : Int32) (x4 : Int32) (H : Heap) (locs : List Loc) (ls : Array Slot), kself I x1 x4 = some I' → zS (zOwn B K (B + n)) D B n K I R s.heap H locs → lv_has ls 5 [(0, .ref (B + a0)), (1, .int x1), (4, .int x4)] → W p l e ({ frames := 4, cells := 0, slots := 0, locals := 111 } : Room) s m args below meth c H locs 0 0 (MQ below (zQv D (zOwn B K (B + n)) B n K I' R) args s 0 0 (zOwn B K (B + n))) (F0 m 140 ls [])) {x1 : Int32} {x4 : Int32} (hf : g_X7_flattens_140 F K R a0 k9 kself I x1 x4 = some I') (hW : zS (zOwn B K (B + n)) D B n K I R s.heap H locs) (hl : lv_has ls 5 [(0, .ref (B + a0)), (1, .int x1), (4, .int x4)]) : W p l e ({ frames := 4, cells := 0, slots := 0, locals := 111 } : Room) s m args below meth c H locs 0 0 (MQ below (zQv D (zOwn B K (B + n)) B n K I' R) args s 0 0 (zOwn B K (B + n))) (F0 m 140 ls []) := by
  unfold g_X7_flattens_140 at hf
  refine lv_iload X.1 X.2.1 dX7_flattens_140 (lv_at hl 2 rfl) ?_
  refine lv_iconst (v := 3) X.1 X.2.1 dX7_flattens_142 (by decide) ?_
  refine lv_iadd X.1 X.2.1 dX7_flattens_143 ?_
  refine lv_sipush (v := 5461) X.1 X.2.1 dX7_flattens_144 (by decide) ?_
  refine lv_iconst (v := 3) X.1 X.2.1 dX7_flattens_147 (by decide) ?_
  refine lv_aload_n X.1 X.2.1 dX7_flattens_148 rfl (lv_at hl 0 rfl) ?_
  refine ze_gtR X 7 0 7 (RX7, TX7, 39) rfl hf hW hK0 rfl (by decide) kfl_X7_7 dX7_flattens_149 (fun o1 hg => ?_)
  replace hf := hg
  refine lv_sipush (v := 5460) X.1 X.2.1 dX7_flattens_152 (by decide) ?_
  obtain ⟨a2, rfl, k4, hg⟩ := zh_dr hf
  replace hf := hg
  refine ze_iald X hf hW k4 dX7_flattens_155 (fun v5 hg => ?_)
  replace hf := hg
  refine lv_imul X.1 X.2.1 dX7_flattens_156 ?_
  refine lv_iadd X.1 X.2.1 dX7_flattens_157 ?_
  refine lv_icmp_ge (tgt := 183) X.1 X.2.1 dX7_flattens_158 (by decide) (fun c6 => ?_) (fun c6 => ?_)
  · replace hf := zif_pos c6 hf
    refine lv_aload_n X.1 X.2.1 dX7_flattens_183 rfl (lv_at hl 0 rfl) ?_
    refine ze_gtR X 7 0 7 (RX7, TX7, 39) rfl hf hW hK0 rfl (by decide) kfl_X7_7 dX7_flattens_184 (fun o7 hg => ?_)
    replace hf := hg
    refine lv_sipush (v := 5460) X.1 X.2.1 dX7_flattens_187 (by decide) ?_
    refine lv_dup2_11 X.1 X.2.1 dX7_flattens_190 rfl (zcat _ _) ?_
    obtain ⟨a8, rfl, k10, hg⟩ := zh_dr hf
    replace hf := hg
    refine ze_iald X hf hW k10 dX7_flattens_191 (fun v11 hg => ?_)
    replace hf := hg
    refine lv_iconst (v := 1) X.1 X.2.1 dX7_flattens_192 (by decide) ?_
    refine lv_isub X.1 X.2.1 dX7_flattens_193 ?_
    refine ze_iast X hf hW k10 dX7_flattens_194 (fun I12 H locs hg hV => ?_)
    replace hf := hg
    replace hW := hV
    refine lv_aload_n X.1 X.2.1 dX7_flattens_195 rfl (lv_at hl 0 rfl) ?_
    refine lv_sipush (v := 5460) X.1 X.2.1 dX7_flattens_196 (by decide) ?_
    obtain ⟨I13, h14, hg⟩ := zh_bd hf
    replace hf := hg
    refine ze_aftV0 (ze_runV (As := [.int (5460 : Int32)]) (rest := []) X 7 155 (c_X7_levels l D B n hK0 h14) vX7_levels kml_X7_155 hW hK0 rfl rfl ⟨by decide, by decide⟩ rfl hl.1 rfl (Nat.le_of_ble_eq_true rfl) ⟨Nat.le_refl _, Nat.le_refl _⟩ dX7_flattens_199) hW (fun H locs hV => ?_)
    replace hW := hV
    refine lv_goto (tgt := 208) X.1 X.2.1 dX7_flattens_202 (by decide) ?_
    exact w_X7_flattens_208 X hr hlk hK0 hk9 hf hW (lv_sub hl [0, 1] rfl)
  · replace hf := zif_neg c6 hf
    refine lv_aload_n X.1 X.2.1 dX7_flattens_161 rfl (lv_at hl 0 rfl) ?_
    refine ze_gtR X 7 0 7 (RX7, TX7, 39) rfl hf hW hK0 rfl (by decide) kfl_X7_7 dX7_flattens_162 (fun o15 hg => ?_)
    replace hf := hg
    refine lv_iload X.1 X.2.1 dX7_flattens_165 (lv_at hl 2 rfl) ?_
    refine lv_aload_n X.1 X.2.1 dX7_flattens_167 rfl (lv_at hl 0 rfl) ?_
    refine ze_gtR X 7 0 7 (RX7, TX7, 39) rfl hf hW hK0 rfl (by decide) kfl_X7_7 dX7_flattens_168 (fun o16 hg => ?_)
    replace hf := hg
    refine lv_iload X.1 X.2.1 dX7_flattens_171 (lv_at hl 2 rfl) ?_
    refine lv_iconst (v := 3) X.1 X.2.1 dX7_flattens_173 (by decide) ?_
    refine lv_iadd X.1 X.2.1 dX7_flattens_174 ?_
    obtain ⟨a17, rfl, k19, hg⟩ := zh_dr hf
    replace hf := hg
    refine ze_iald X hf hW k19 dX7_flattens_175 (fun v20 hg => ?_)
    replace hf := hg
    obtain ⟨a21, rfl, k23, hg⟩ := zh_dr hf
    replace hf := hg
    refine ze_iast X hf hW k23 dX7_flattens_176 (fun I24 H locs hg hV => ?_)
    replace hf := hg
    replace hW := hV
    refine ze_iinc (lv' := [(4, .int (x4 + (1 : Int32))), (0, .ref (B + a0)), (1, .int x1)]) (d := 1) X.1 X.2.1 dX7_flattens_177 hl (k := 2) rfl (by decide) (by decide) rfl (fun ls hk => ?_)
    replace hl := hk
    refine lv_goto (tgt := 140) X.1 X.2.1 dX7_flattens_180 (by decide) ?_
    exact hkself _ _ _ _ _ _ hf hW (lv_sub hl [1, 2, 0] rfl)
set_option maxRecDepth 100000 in
set_option maxHeartbeats 4000000 in
theorem w_X7_flattens_140 {F : Nat} {a0 : Nat} {k9 : zI → Int32 → Option (zI)} (X : zX p s m c cX7_flattens 5 RX7 D) (hr : meth.sig.returnType = none) (hlk : meth.locks = false) (hK0 : (K a0).1 = 17) (hk9 : ∀ (I : zI) (x1 : Int32) (H : Heap) (locs : List Loc) (ls : Array Slot), k9 I x1 = some I' → zS (zOwn B K (B + n)) D B n K I R s.heap H locs → lv_has ls 5 [(0, .ref (B + a0)), (1, .int x1)] → W p l e ({ frames := 4, cells := 0, slots := 0, locals := 111 } : Room) s m args below meth c H locs 0 0 (MQ below (zQv D (zOwn B K (B + n)) B n K I' R) args s 0 0 (zOwn B K (B + n))) (F0 m 9 ls [])) {t : Nat} {x1 : Int32} {x4 : Int32} (hf : f_X7_flattens_140 F K R a0 k9 t I x1 x4 = some I') (hW : zS (zOwn B K (B + n)) D B n K I R s.heap H locs) (hl : lv_has ls 5 [(0, .ref (B + a0)), (1, .int x1), (4, .int x4)]) : W p l e ({ frames := 4, cells := 0, slots := 0, locals := 111 } : Room) s m args below meth c H locs 0 0 (MQ below (zQv D (zOwn B K (B + n)) B n K I' R) args s 0 0 (zOwn B K (B + n))) (F0 m 140 ls []) := by
  have key : ∀ t : Nat, ∀ (I : zI) (x1 : Int32) (x4 : Int32) (H : Heap) (locs : List Loc) (ls : Array Slot), f_X7_flattens_140 F K R a0 k9 t I x1 x4 = some I' → zS (zOwn B K (B + n)) D B n K I R s.heap H locs → lv_has ls 5 [(0, .ref (B + a0)), (1, .int x1), (4, .int x4)] → W p l e ({ frames := 4, cells := 0, slots := 0, locals := 111 } : Room) s m args below meth c H locs 0 0 (MQ below (zQv D (zOwn B K (B + n)) B n K I' R) args s 0 0 (zOwn B K (B + n))) (F0 m 140 ls []) := by
    intro t
    induction t with
    | zero =>
      intro I x1 x4 H locs ls hf hW hl
      cases hf
    | succ t ih =>
      intro I x1 x4 H locs ls hf hW hl
      exact wg_X7_flattens_140 X hr hlk hK0 hk9 ih hf hW hl
  exact key t _ _ _ _ _ _ hf hW hl
set_option maxRecDepth 100000 in
set_option maxHeartbeats 4000000 in
theorem w_X7_flattens_101 {F : Nat} {a0 : Nat} {k9 : zI → Int32 → Option (zI)} (X : zX p s m c cX7_flattens 5 RX7 D) (hr : meth.sig.returnType = none) (hlk : meth.locks = false) (hK0 : (K a0).1 = 17) (hk9 : ∀ (I : zI) (x1 : Int32) (H : Heap) (locs : List Loc) (ls : Array Slot), k9 I x1 = some I' → zS (zOwn B K (B + n)) D B n K I R s.heap H locs → lv_has ls 5 [(0, .ref (B + a0)), (1, .int x1)] → W p l e ({ frames := 4, cells := 0, slots := 0, locals := 111 } : Room) s m args below meth c H locs 0 0 (MQ below (zQv D (zOwn B K (B + n)) B n K I' R) args s 0 0 (zOwn B K (B + n))) (F0 m 9 ls [])) {x1 : Int32} {x2 : Int32} {s0 : Int32} (hf : f_X7_flattens_101 F K R a0 k9 I x1 x2 s0 = some I') (hW : zS (zOwn B K (B + n)) D B n K I R s.heap H locs) (hl : lv_has ls 5 [(0, .ref (B + a0)), (1, .int x1), (2, .int x2)]) : W p l e ({ frames := 4, cells := 0, slots := 0, locals := 111 } : Room) s m args below meth c H locs 0 0 (MQ below (zQv D (zOwn B K (B + n)) B n K I' R) args s 0 0 (zOwn B K (B + n))) (F0 m 101 ls [.int s0]) := by
  unfold f_X7_flattens_101 at hf
  refine lv_istore_n (i := 3) (lv' := [(3, .int s0), (0, .ref (B + a0)), (1, .int x1), (2, .int x2)]) X.1 X.2.1 dX7_flattens_101 rfl hl (by decide) rfl (fun ls hk => ?_)
  replace hl := hk
  refine lv_iload_n X.1 X.2.1 dX7_flattens_102 rfl (lv_at hl 0 rfl) ?_
  refine lv_if_eq (tgt := 205) X.1 X.2.1 dX7_flattens_103 (by decide) (fun c25 => ?_) (fun c25 => ?_)
  · replace hf := zif_pos c25 hf
    refine ze_iinc (lv' := [(1, .int (x1 + (1 : Int32))), (3, .int s0), (0, .ref (B + a0)), (2, .int x2)]) (d := 1) X.1 X.2.1 dX7_flattens_205 hl (k := 2) rfl (by decide) (by decide) rfl (fun ls hk => ?_)
    replace hl := hk
    exact w_X7_flattens_208 X hr hlk hK0 hk9 hf hW (lv_sub hl [2, 0] rfl)
  · replace hf := zif_neg c25 hf
    refine lv_aload_n X.1 X.2.1 dX7_flattens_106 rfl (lv_at hl 1 rfl) ?_
    refine ze_gtR X 7 0 7 (RX7, TX7, 39) rfl hf hW hK0 rfl (by decide) kfl_X7_7 dX7_flattens_107 (fun o26 hg => ?_)
    replace hf := hg
    refine lv_sipush (v := 5463) X.1 X.2.1 dX7_flattens_110 (by decide) ?_
    refine lv_iconst (v := 3) X.1 X.2.1 dX7_flattens_113 (by decide) ?_
    refine lv_iload_n X.1 X.2.1 dX7_flattens_114 rfl (lv_at hl 3 rfl) ?_
    refine lv_imul X.1 X.2.1 dX7_flattens_115 ?_
    refine lv_iadd X.1 X.2.1 dX7_flattens_116 ?_
    refine lv_dup2_11 X.1 X.2.1 dX7_flattens_117 rfl (zcat _ _) ?_
    obtain ⟨a27, rfl, k29, hg⟩ := zh_dr hf
    replace hf := hg
    refine ze_iald X hf hW k29 dX7_flattens_118 (fun v30 hg => ?_)
    replace hf := hg
    refine lv_aload_n X.1 X.2.1 dX7_flattens_119 rfl (lv_at hl 1 rfl) ?_
    refine lv_sipush (v := 5460) X.1 X.2.1 dX7_flattens_120 (by decide) ?_
    refine lv_iload_n X.1 X.2.1 dX7_flattens_123 rfl (lv_at hl 2 rfl) ?_
    obtain ⟨v31, h32, hg⟩ := zh_bd hf
    replace hf := hg
    refine ze_aftI0 (ze_runV (As := [.int (5460 : Int32), .int x1]) (rest := [.int v30, .int ((5463 : Int32) + ((3 : Int32) * x2)), .ref (B + a27)]) X 7 111 (c_X7_arguments l D B n hK0 h32) vX7_arguments kml_X7_111 hW hK0 rfl rfl ⟨by decide, by decide⟩ rfl hl.1 rfl (Nat.le_of_ble_eq_true rfl) ⟨Nat.le_refl _, Nat.le_refl _⟩ dX7_flattens_124) hW (fun H locs hV => ?_)
    replace hW := hV
    refine lv_iconst (v := 1) X.1 X.2.1 dX7_flattens_127 (by decide) ?_
    refine lv_isub X.1 X.2.1 dX7_flattens_128 ?_
    refine lv_iadd X.1 X.2.1 dX7_flattens_129 ?_
    refine ze_iast X hf hW k29 dX7_flattens_130 (fun I33 H locs hg hV => ?_)
    replace hf := hg
    replace hW := hV
    refine lv_sipush (v := 5461) X.1 X.2.1 dX7_flattens_131 (by decide) ?_
    refine lv_iconst (v := 3) X.1 X.2.1 dX7_flattens_134 (by decide) ?_
    refine lv_iload_n X.1 X.2.1 dX7_flattens_135 rfl (lv_at hl 2 rfl) ?_
    refine lv_imul X.1 X.2.1 dX7_flattens_136 ?_
    refine lv_iadd X.1 X.2.1 dX7_flattens_137 ?_
    refine ze_nm hf (fun v34 hg => ?_)
    replace hf := hg
    refine lv_istore (lv' := [(4, .int v34), (3, .int s0), (0, .ref (B + a0)), (1, .int x1), (2, .int x2)]) X.1 X.2.1 dX7_flattens_138 hl (by decide) rfl (fun ls hk => ?_)
    replace hl := hk
    exact w_X7_flattens_140 X hr hlk hK0 hk9 hf hW (lv_sub hl [2, 3, 0] rfl)
set_option maxRecDepth 100000 in
set_option maxHeartbeats 4000000 in
theorem w_X7_flattens_100 {F : Nat} {a0 : Nat} {k9 : zI → Int32 → Option (zI)} (X : zX p s m c cX7_flattens 5 RX7 D) (hr : meth.sig.returnType = none) (hlk : meth.locks = false) (hK0 : (K a0).1 = 17) (hk9 : ∀ (I : zI) (x1 : Int32) (H : Heap) (locs : List Loc) (ls : Array Slot), k9 I x1 = some I' → zS (zOwn B K (B + n)) D B n K I R s.heap H locs → lv_has ls 5 [(0, .ref (B + a0)), (1, .int x1)] → W p l e ({ frames := 4, cells := 0, slots := 0, locals := 111 } : Room) s m args below meth c H locs 0 0 (MQ below (zQv D (zOwn B K (B + n)) B n K I' R) args s 0 0 (zOwn B K (B + n))) (F0 m 9 ls [])) {x1 : Int32} {x2 : Int32} (hf : f_X7_flattens_100 F K R a0 k9 I x1 x2 = some I') (hW : zS (zOwn B K (B + n)) D B n K I R s.heap H locs) (hl : lv_has ls 5 [(0, .ref (B + a0)), (1, .int x1), (2, .int x2)]) : W p l e ({ frames := 4, cells := 0, slots := 0, locals := 111 } : Room) s m args below meth c H locs 0 0 (MQ below (zQv D (zOwn B K (B + n)) B n K I' R) args s 0 0 (zOwn B K (B + n))) (F0 m 100 ls []) := by
  unfold f_X7_flattens_100 at hf
  refine lv_iconst (v := 0) X.1 X.2.1 dX7_flattens_100 (by decide) ?_
  exact w_X7_flattens_101 X hr hlk hK0 hk9 hf hW hl
set_option maxRecDepth 100000 in
set_option maxHeartbeats 4000000 in
theorem wg_X7_flattens_9 {F : Nat} {a0 : Nat}  (X : zX p s m c cX7_flattens 5 RX7 D) (hr : meth.sig.returnType = none) (hlk : meth.locks = false) (hK0 : (K a0).1 = 17)  {kself : zI → Int32 → Option (zI)} (hkself : ∀ (I : zI) (x1 : Int32) (H : Heap) (locs : List Loc) (ls : Array Slot), kself I x1 = some I' → zS (zOwn B K (B + n)) D B n K I R s.heap H locs → lv_has ls 5 [(0, .ref (B + a0)), (1, .int x1)] → W p l e ({ frames := 4, cells := 0, slots := 0, locals := 111 } : Room) s m args below meth c H locs 0 0 (MQ below (zQv D (zOwn B K (B + n)) B n K I' R) args s 0 0 (zOwn B K (B + n))) (F0 m 9 ls [])) {x1 : Int32} (hf : g_X7_flattens_9 F K R a0  kself I x1 = some I') (hW : zS (zOwn B K (B + n)) D B n K I R s.heap H locs) (hl : lv_has ls 5 [(0, .ref (B + a0)), (1, .int x1)]) : W p l e ({ frames := 4, cells := 0, slots := 0, locals := 111 } : Room) s m args below meth c H locs 0 0 (MQ below (zQv D (zOwn B K (B + n)) B n K I' R) args s 0 0 (zOwn B K (B + n))) (F0 m 9 ls []) := by
  unfold g_X7_flattens_9 at hf
  refine lv_iload_n X.1 X.2.1 dX7_flattens_9 rfl (lv_at hl 1 rfl) ?_
  refine lv_aload_n X.1 X.2.1 dX7_flattens_10 rfl (lv_at hl 0 rfl) ?_
  refine ze_gtR X 7 0 7 (RX7, TX7, 39) rfl hf hW hK0 rfl (by decide) kfl_X7_7 dX7_flattens_11 (fun o35 hg => ?_)
  replace hf := hg
  refine lv_sipush (v := 5460) X.1 X.2.1 dX7_flattens_14 (by decide) ?_
  obtain ⟨a36, rfl, k38, hg⟩ := zh_dr hf
  replace hf := hg
  refine ze_iald X hf hW k38 dX7_flattens_17 (fun v39 hg => ?_)
  replace hf := hg
  refine lv_icmp_ge (tgt := 211) X.1 X.2.1 dX7_flattens_18 (by decide) (fun c40 => ?_) (fun c40 => ?_)
  · replace hf := zif_pos c40 hf
    obtain rfl := zi1 hf
    exact ze_retV X hr hlk hW (Nat.le_refl _) (Nat.le_refl _) dX7_flattens_211
  · replace hf := zif_neg c40 hf
    refine lv_aload_n X.1 X.2.1 dX7_flattens_21 rfl (lv_at hl 0 rfl) ?_
    refine ze_gtR X 7 8 29 (RX7, TX7, 39) rfl hf hW hK0 rfl (by decide) kfl_X7_29 dX7_flattens_22 (fun o41 hg => ?_)
    replace hf := hg
    refine lv_iload_n X.1 X.2.1 dX7_flattens_25 rfl (lv_at hl 1 rfl) ?_
    obtain ⟨a42, rfl, k44, hg⟩ := zh_dr hf
    replace hf := hg
    refine ze_iald X hf hW k44 dX7_flattens_26 (fun v45 hg => ?_)
    replace hf := hg
    refine lv_istore_n (i := 2) (lv' := [(2, .int v45), (0, .ref (B + a0)), (1, .int x1)]) X.1 X.2.1 dX7_flattens_27 rfl hl (by decide) rfl (fun ls hk => ?_)
    replace hl := hk
    refine lv_aload_n X.1 X.2.1 dX7_flattens_28 rfl (lv_at hl 1 rfl) ?_
    refine lv_sipush (v := 5460) X.1 X.2.1 dX7_flattens_29 (by decide) ?_
    refine lv_iload_n X.1 X.2.1 dX7_flattens_32 rfl (lv_at hl 2 rfl) ?_
    obtain ⟨v46, h47, hg⟩ := zh_bd hf
    replace hf := hg
    refine ze_aftI0 (ze_runV (As := [.int (5460 : Int32), .int x1]) (rest := []) X 7 119 (c_X7_sort l D B n hK0 h47) vX7_sort kml_X7_119 hW hK0 rfl rfl ⟨by decide, by decide⟩ rfl hl.1 rfl (Nat.le_of_ble_eq_true rfl) ⟨Nat.le_refl _, Nat.le_refl _⟩ dX7_flattens_33) hW (fun H locs hV => ?_)
    replace hW := hV
    refine lv_if_ne (tgt := 100) X.1 X.2.1 dX7_flattens_36 (by decide) (fun c48 => ?_) (fun c48 => ?_)
    · replace hf := zif_neg c48 hf
      exact w_X7_flattens_100 X hr hlk hK0 hkself hf hW (lv_sub hl [1, 2, 0] rfl)
    · replace hf := zif_pos c48 hf
      refine lv_aload_n X.1 X.2.1 dX7_flattens_39 rfl (lv_at hl 1 rfl) ?_
      refine lv_sipush (v := 5460) X.1 X.2.1 dX7_flattens_40 (by decide) ?_
      refine lv_iload_n X.1 X.2.1 dX7_flattens_43 rfl (lv_at hl 0 rfl) ?_
      obtain ⟨v49, h50, hg⟩ := zh_bd hf
      replace hf := hg
      refine ze_aftI0 (ze_runV (As := [.int (5460 : Int32), .int v45]) (rest := []) X 7 119 (c_X7_sort l D B n hK0 h50) vX7_sort kml_X7_119 hW hK0 rfl rfl ⟨by decide, by decide⟩ rfl hl.1 rfl (Nat.le_of_ble_eq_true rfl) ⟨Nat.le_refl _, Nat.le_refl _⟩ dX7_flattens_44) hW (fun H locs hV => ?_)
      replace hW := hV
      refine lv_if_ne (tgt := 100) X.1 X.2.1 dX7_flattens_47 (by decide) (fun c51 => ?_) (fun c51 => ?_)
      · replace hf := zif_neg c51 hf
        exact w_X7_flattens_100 X hr hlk hK0 hkself hf hW (lv_sub hl [1, 2, 0] rfl)
      · replace hf := zif_pos c51 hf
        refine lv_aload_n X.1 X.2.1 dX7_flattens_50 rfl (lv_at hl 1 rfl) ?_
        refine lv_sipush (v := 5460) X.1 X.2.1 dX7_flattens_51 (by decide) ?_
        refine lv_iload_n X.1 X.2.1 dX7_flattens_54 rfl (lv_at hl 2 rfl) ?_
        obtain ⟨v52, h53, hg⟩ := zh_bd hf
        replace hf := hg
        refine ze_aftI0 (ze_runV (As := [.int (5460 : Int32), .int x1]) (rest := []) X 7 159 (c_X7_number l D B n hK0 h53) vX7_number kml_X7_159 hW hK0 rfl rfl ⟨by decide, by decide⟩ rfl hl.1 rfl (Nat.le_of_ble_eq_true rfl) ⟨Nat.le_refl _, Nat.le_refl _⟩ dX7_flattens_55) hW (fun H locs hV => ?_)
        replace hW := hV
        refine lv_aload_n X.1 X.2.1 dX7_flattens_58 rfl (lv_at hl 1 rfl) ?_
        refine lv_sipush (v := 5460) X.1 X.2.1 dX7_flattens_59 (by decide) ?_
        refine lv_iload_n X.1 X.2.1 dX7_flattens_62 rfl (lv_at hl 0 rfl) ?_
        obtain ⟨v54, h55, hg⟩ := zh_bd hf
        replace hf := hg
        refine ze_aftI0 (ze_runV (As := [.int (5460 : Int32), .int v45]) (rest := [.int v52]) X 7 159 (c_X7_number l D B n hK0 h55) vX7_number kml_X7_159 hW hK0 rfl rfl ⟨by decide, by decide⟩ rfl hl.1 rfl (Nat.le_of_ble_eq_true rfl) ⟨Nat.le_refl _, Nat.le_refl _⟩ dX7_flattens_63) hW (fun H locs hV => ?_)
        replace hW := hV
        refine lv_icmp_ne (tgt := 100) X.1 X.2.1 dX7_flattens_66 (by decide) (fun c56 => ?_) (fun c56 => ?_)
        · replace hf := zif_neg c56 hf
          exact w_X7_flattens_100 X hr hlk hK0 hkself hf hW (lv_sub hl [1, 2, 0] rfl)
        · replace hf := zif_pos c56 hf
          refine lv_aload_n X.1 X.2.1 dX7_flattens_69 rfl (lv_at hl 1 rfl) ?_
          refine lv_sipush (v := 5460) X.1 X.2.1 dX7_flattens_70 (by decide) ?_
          refine lv_iload_n X.1 X.2.1 dX7_flattens_73 rfl (lv_at hl 2 rfl) ?_
          obtain ⟨v57, h58, hg⟩ := zh_bd hf
          replace hf := hg
          refine ze_aftI0 (ze_runV (As := [.int (5460 : Int32), .int x1]) (rest := []) X 7 111 (c_X7_arguments l D B n hK0 h58) vX7_arguments kml_X7_111 hW hK0 rfl rfl ⟨by decide, by decide⟩ rfl hl.1 rfl (Nat.le_of_ble_eq_true rfl) ⟨Nat.le_refl _, Nat.le_refl _⟩ dX7_flattens_74) hW (fun H locs hV => ?_)
          replace hW := hV
          refine lv_if_le (tgt := 100) X.1 X.2.1 dX7_flattens_77 (by decide) (fun c59 => ?_) (fun c59 => ?_)
          · replace hf := zif_pos c59 hf
            exact w_X7_flattens_100 X hr hlk hK0 hkself hf hW (lv_sub hl [1, 2, 0] rfl)
          · replace hf := zif_neg c59 hf
            refine lv_aload_n X.1 X.2.1 dX7_flattens_80 rfl (lv_at hl 1 rfl) ?_
            refine lv_iconst (v := 2) X.1 X.2.1 dX7_flattens_81 (by decide) ?_
            refine lv_aload_n X.1 X.2.1 dX7_flattens_82 rfl (lv_at hl 1 rfl) ?_
            refine lv_sipush (v := 5460) X.1 X.2.1 dX7_flattens_83 (by decide) ?_
            refine lv_iload_n X.1 X.2.1 dX7_flattens_86 rfl (lv_at hl 2 rfl) ?_
            obtain ⟨v60, h61, hg⟩ := zh_bd hf
            replace hf := hg
            refine ze_aftI0 (ze_runV (As := [.int (5460 : Int32), .int x1]) (rest := [.int (2 : Int32), .ref (B + a0)]) X 7 159 (c_X7_number l D B n hK0 h61) vX7_number kml_X7_159 hW hK0 rfl rfl ⟨by decide, by decide⟩ rfl hl.1 rfl (Nat.le_of_ble_eq_true rfl) ⟨Nat.le_refl _, Nat.le_refl _⟩ dX7_flattens_87) hW (fun H locs hV => ?_)
            replace hW := hV
            obtain ⟨v62, h63, hg⟩ := zh_bd hf
            replace hf := hg
            refine ze_aftI0 (ze_runV (As := [.int (2 : Int32), .int v60]) (rest := []) X 7 162 (c_X7_isSet l D B n hK0 h63) vX7_isSet kml_X7_162 hW hK0 rfl rfl ⟨by decide, by decide⟩ rfl hl.1 rfl (Nat.le_of_ble_eq_true rfl) ⟨Nat.le_refl _, Nat.le_refl _⟩ dX7_flattens_90) hW (fun H locs hV => ?_)
            replace hW := hV
            refine lv_if_eq (tgt := 100) X.1 X.2.1 dX7_flattens_93 (by decide) (fun c64 => ?_) (fun c64 => ?_)
            · replace hf := zif_pos c64 hf
              exact w_X7_flattens_100 X hr hlk hK0 hkself hf hW (lv_sub hl [1, 2, 0] rfl)
            · replace hf := zif_neg c64 hf
              refine lv_iconst (v := 1) X.1 X.2.1 dX7_flattens_96 (by decide) ?_
              refine lv_goto (tgt := 101) X.1 X.2.1 dX7_flattens_97 (by decide) ?_
              exact w_X7_flattens_101 X hr hlk hK0 hkself hf hW (lv_sub hl [1, 2, 0] rfl)
set_option maxRecDepth 100000 in
set_option maxHeartbeats 4000000 in
theorem w_X7_flattens_9 {F : Nat} {a0 : Nat}  (X : zX p s m c cX7_flattens 5 RX7 D) (hr : meth.sig.returnType = none) (hlk : meth.locks = false) (hK0 : (K a0).1 = 17)  {t : Nat} {x1 : Int32} (hf : f_X7_flattens_9 F K R a0  t I x1 = some I') (hW : zS (zOwn B K (B + n)) D B n K I R s.heap H locs) (hl : lv_has ls 5 [(0, .ref (B + a0)), (1, .int x1)]) : W p l e ({ frames := 4, cells := 0, slots := 0, locals := 111 } : Room) s m args below meth c H locs 0 0 (MQ below (zQv D (zOwn B K (B + n)) B n K I' R) args s 0 0 (zOwn B K (B + n))) (F0 m 9 ls []) := by
  have key : ∀ t : Nat, ∀ (I : zI) (x1 : Int32) (H : Heap) (locs : List Loc) (ls : Array Slot), f_X7_flattens_9 F K R a0  t I x1 = some I' → zS (zOwn B K (B + n)) D B n K I R s.heap H locs → lv_has ls 5 [(0, .ref (B + a0)), (1, .int x1)] → W p l e ({ frames := 4, cells := 0, slots := 0, locals := 111 } : Room) s m args below meth c H locs 0 0 (MQ below (zQv D (zOwn B K (B + n)) B n K I' R) args s 0 0 (zOwn B K (B + n))) (F0 m 9 ls []) := by
    intro t
    induction t with
    | zero =>
      intro I x1 H locs ls hf hW hl
      cases hf
    | succ t ih =>
      intro I x1 H locs ls hf hW hl
      exact wg_X7_flattens_9 X hr hlk hK0  ih hf hW hl
  exact key t _ _ _ _ _ hf hW hl
set_option maxRecDepth 100000 in
set_option maxHeartbeats 4000000 in
theorem c_X7_flattens (l : Launch) (D : zD) (B n : Nat) {F : Nat} {K : zK} {I : zI} {R : zR} {a0 : Nat}  {I' : zI} (hK0 : (K a0).1 = 17) (hf : f_X7_flattens F K I R a0  = some I') : zM l yX7_flattens cX7_flattens 5 (none) ({ frames := 4, cells := 0, slots := 0, locals := 111 } : Room) D B n K I R [.ref (B + a0)] (zQv D (zOwn B K (B + n)) B n K I' R) := by
  refine ze_entry (lv0 := [(0, .ref (B + a0))]) (by decide) (by simp [lg_sl, zcat, zcat_i, zcat_r, zcat_l]) (by simp [lv_args, zcat, zcat_i, zcat_r, zcat_l]) (fun p e s m below meth c X hr hlk hin hW ls hl => ?_)
  unfold f_X7_flattens at hf
  refine lv_iconst (v := 1) X.1 X.2.1 dX7_flattens_0 (by decide) ?_
  refine lv_istore_n (i := 1) (lv' := [(1, .int (1 : Int32)), (0, .ref (B + a0))]) X.1 X.2.1 dX7_flattens_1 rfl hl (by decide) rfl (fun ls hk => ?_)
  replace hl := hk
  refine lv_aload_n X.1 X.2.1 dX7_flattens_2 rfl (lv_at hl 1 rfl) ?_
  refine lv_sipush (v := 5460) X.1 X.2.1 dX7_flattens_3 (by decide) ?_
  obtain ⟨I65, h66, hg⟩ := zh_bd hf
  replace hf := hg
  refine ze_aftV0 (ze_runV (As := [.int (5460 : Int32)]) (rest := []) X 7 155 (c_X7_levels l D B n hK0 h66) vX7_levels kml_X7_155 hW hK0 rfl rfl ⟨by decide, by decide⟩ rfl hl.1 rfl (Nat.le_of_ble_eq_true rfl) ⟨Nat.le_refl _, Nat.le_refl _⟩ dX7_flattens_6) hW (fun H locs hV => ?_)
  replace hW := hV
  exact w_X7_flattens_9 X hr hlk hK0 hf hW (lv_sub hl [1, 0] rfl)
end

/-! LeastPatternsModel.isSound()Z -/
def f_X7_isSound_116 (F : Nat) (K : zK) (R : zR) (a0 : Nat) (k15 : zI → Int32 → Int32 → Option (Int32 × zI)) (I : zI) (x2 : Int32) (s0 : Int32) : Option (Int32 × zI) :=
  k15 I s0 (x2 + (1 : Int32))
def f_X7_isSound_115 (F : Nat) (K : zK) (R : zR) (a0 : Nat) (k15 : zI → Int32 → Int32 → Option (Int32 × zI)) (I : zI) (x2 : Int32) : Option (Int32 × zI) :=
  f_X7_isSound_116 F K R a0 k15 I x2 (0 : Int32)
def f_X7_isSound_69 (F : Nat) (K : zK) (R : zR) (a0 : Nat) (k15 : zI → Int32 → Int32 → Option (Int32 × zI)) (k37 : zI → Int32 → Int32 → Int32 → Int32 → Int32 → Option (Int32 × zI)) (I : zI) (x1 : Int32) (x2 : Int32) (x4 : Int32) (x5 : Int32) (s0 : Int32) (s1 : Int32) : Option (Int32 × zI) :=
  zbd (some (s0 + s1)) fun v1 =>
  zbd (some (R a0 5)) fun o2 =>
  zbd (zdr K o2 1) fun a3 =>
  zbd (zrd K I a3 x4) fun v6 =>
  zbd (some (x4 + v6)) fun v7 =>
  k37 I x1 x2 v1 v7 (x5 + (1 : Int32))
def g_X7_isSound_37 (F : Nat) (K : zK) (R : zR) (a0 : Nat) (k15 : zI → Int32 → Int32 → Option (Int32 × zI)) (kself : zI → Int32 → Int32 → Int32 → Int32 → Int32 → Option (Int32 × zI)) (I : zI) (x1 : Int32) (x2 : Int32) (x3 : Int32) (x4 : Int32) (x5 : Int32) : Option (Int32 × zI) :=
  zbd (f_X7_arguments F K I R a0 (5460 : Int32) x2) fun v8 =>
  if v8 ≤ x5 then
    if x1 = (0 : Int32) then
      f_X7_isSound_115 F K R a0 k15 I x2
    else
      zbd (f_X7_arguments F K I R a0 (5460 : Int32) x2) fun v12 =>
      if (8 : Int32) < v12 then
        f_X7_isSound_115 F K R a0 k15 I x2
      else
        if (2 : Int32) ≤ x3 then
          f_X7_isSound_115 F K R a0 k15 I x2
        else
          f_X7_isSound_116 F K R a0 k15 I x2 (1 : Int32)
  else
    zbd (f_X7_sort F K I R a0 (5460 : Int32) x4) fun v16 =>
    if v16 = (3 : Int32) then
      f_X7_isSound_69 F K R a0 k15 kself I x1 x2 x4 x5 x3 (1 : Int32)
    else
      f_X7_isSound_69 F K R a0 k15 kself I x1 x2 x4 x5 x3 (0 : Int32)
def f_X7_isSound_37 (F : Nat) (K : zK) (R : zR) (a0 : Nat) (k15 : zI → Int32 → Int32 → Option (Int32 × zI)) : Nat → zI → Int32 → Int32 → Int32 → Int32 → Int32 → Option (Int32 × zI)
  | 0, _, _, _, _, _, _ => none
  | t + 1, I, x1, x2, x3, x4, x5 => g_X7_isSound_37 F K R a0 k15 (f_X7_isSound_37 F K R a0 k15 t) I x1 x2 x3 x4 x5
def g_X7_isSound_15 (F : Nat) (K : zK) (R : zR) (a0 : Nat)  (kself : zI → Int32 → Int32 → Option (Int32 × zI)) (I : zI) (x1 : Int32) (x2 : Int32) : Option (Int32 × zI) :=
  zbd (some (R a0 0)) fun o19 =>
  zbd (zdr K o19 1) fun a20 =>
  zbd (zrd K I a20 (5460 : Int32)) fun v23 =>
  if v23 ≤ x2 then
    if x1 = 0 ∨ x1 = 1 then
    some (x1, I)
    else
    none
  else
    zbd (some (x2 + (1 : Int32))) fun v26 =>
    f_X7_isSound_37 F K R a0 kself F I x1 x2 (0 : Int32) v26 (0 : Int32)
def f_X7_isSound_15 (F : Nat) (K : zK) (R : zR) (a0 : Nat)  : Nat → zI → Int32 → Int32 → Option (Int32 × zI)
  | 0, _, _, _ => none
  | t + 1, I, x1, x2 => g_X7_isSound_15 F K R a0  (f_X7_isSound_15 F K R a0  t) I x1 x2
def f_X7_isSound (F : Nat) (K : zK) (I : zI) (R : zR) (a0 : Nat)  : Option (Int32 × zI) :=
  zbd (some (R a0 5)) fun o27 =>
  zbd (f_X7_counts F K I R a0 (5460 : Int32) o27) fun I28 =>
  f_X7_isSound_15 F K R a0 F I28 (1 : Int32) (0 : Int32)
section
variable {p : Program} {l : Launch} {e : Env} {s : State} {m : MethodId} {args : Array Value} {below : List Frame} {meth : Method} {c : Code} {D : zD} {B n n0 n' fd ld : Nat} {K K0 K' : zK} {I I' : zI} {R R' : zR} {H : Heap} {locs : List Loc} {ls : Array Slot} {r : Int32}
set_option maxRecDepth 100000 in
set_option maxHeartbeats 4000000 in
theorem w_X7_isSound_116 {F : Nat} {a0 : Nat} {k15 : zI → Int32 → Int32 → Option (Int32 × zI)} (X : zX p s m c cX7_isSound 6 RX7 D) (hr : meth.sig.returnType = some .boolean) (hlk : meth.locks = false) (hK0 : (K a0).1 = 17) (hk15 : ∀ (I : zI) (x1 : Int32) (x2 : Int32) (H : Heap) (locs : List Loc) (ls : Array Slot), k15 I x1 x2 = some (r, I') → zS (zOwn B K (B + n)) D B n K I R s.heap H locs → lv_has ls 6 [(0, .ref (B + a0)), (1, .int x1), (2, .int x2)] → W p l e ({ frames := 3, cells := 0, slots := 0, locals := 87 } : Room) s m args below meth c H locs 0 0 (MQ below (zQi D (zOwn B K (B + n)) r B n K I' R) args s 0 0 (zOwn B K (B + n))) (F0 m 15 ls [])) {x2 : Int32} {s0 : Int32} (hf : f_X7_isSound_116 F K R a0 k15 I x2 s0 = some (r, I')) (hW : zS (zOwn B K (B + n)) D B n K I R s.heap H locs) (hl : lv_has ls 6 [(0, .ref (B + a0)), (2, .int x2)]) : W p l e ({ frames := 3, cells := 0, slots := 0, locals := 87 } : Room) s m args below meth c H locs 0 0 (MQ below (zQi D (zOwn B K (B + n)) r B n K I' R) args s 0 0 (zOwn B K (B + n))) (F0 m 116 ls [.int s0]) := by
  unfold f_X7_isSound_116 at hf
  refine lv_istore_n (i := 1) (lv' := [(1, .int s0), (0, .ref (B + a0)), (2, .int x2)]) X.1 X.2.1 dX7_isSound_116 rfl hl (by decide) rfl (fun ls hk => ?_)
  replace hl := hk
  refine ze_iinc (lv' := [(2, .int (x2 + (1 : Int32))), (1, .int s0), (0, .ref (B + a0))]) (d := 1) X.1 X.2.1 dX7_isSound_117 hl (k := 2) rfl (by decide) (by decide) rfl (fun ls hk => ?_)
  replace hl := hk
  refine lv_goto (tgt := 15) X.1 X.2.1 dX7_isSound_120 (by decide) ?_
  exact hk15 _ _ _ _ _ _ hf hW (lv_sub hl [2, 1, 0] rfl)
set_option maxRecDepth 100000 in
set_option maxHeartbeats 4000000 in
theorem w_X7_isSound_115 {F : Nat} {a0 : Nat} {k15 : zI → Int32 → Int32 → Option (Int32 × zI)} (X : zX p s m c cX7_isSound 6 RX7 D) (hr : meth.sig.returnType = some .boolean) (hlk : meth.locks = false) (hK0 : (K a0).1 = 17) (hk15 : ∀ (I : zI) (x1 : Int32) (x2 : Int32) (H : Heap) (locs : List Loc) (ls : Array Slot), k15 I x1 x2 = some (r, I') → zS (zOwn B K (B + n)) D B n K I R s.heap H locs → lv_has ls 6 [(0, .ref (B + a0)), (1, .int x1), (2, .int x2)] → W p l e ({ frames := 3, cells := 0, slots := 0, locals := 87 } : Room) s m args below meth c H locs 0 0 (MQ below (zQi D (zOwn B K (B + n)) r B n K I' R) args s 0 0 (zOwn B K (B + n))) (F0 m 15 ls [])) {x2 : Int32} (hf : f_X7_isSound_115 F K R a0 k15 I x2 = some (r, I')) (hW : zS (zOwn B K (B + n)) D B n K I R s.heap H locs) (hl : lv_has ls 6 [(0, .ref (B + a0)), (2, .int x2)]) : W p l e ({ frames := 3, cells := 0, slots := 0, locals := 87 } : Room) s m args below meth c H locs 0 0 (MQ below (zQi D (zOwn B K (B + n)) r B n K I' R) args s 0 0 (zOwn B K (B + n))) (F0 m 115 ls []) := by
  unfold f_X7_isSound_115 at hf
  refine lv_iconst (v := 0) X.1 X.2.1 dX7_isSound_115 (by decide) ?_
  exact w_X7_isSound_116 X hr hlk hK0 hk15 hf hW hl
set_option maxRecDepth 100000 in
set_option maxHeartbeats 4000000 in
theorem w_X7_isSound_69 {F : Nat} {a0 : Nat} {k15 : zI → Int32 → Int32 → Option (Int32 × zI)} {k37 : zI → Int32 → Int32 → Int32 → Int32 → Int32 → Option (Int32 × zI)} (X : zX p s m c cX7_isSound 6 RX7 D) (hr : meth.sig.returnType = some .boolean) (hlk : meth.locks = false) (hK0 : (K a0).1 = 17) (hk15 : ∀ (I : zI) (x1 : Int32) (x2 : Int32) (H : Heap) (locs : List Loc) (ls : Array Slot), k15 I x1 x2 = some (r, I') → zS (zOwn B K (B + n)) D B n K I R s.heap H locs → lv_has ls 6 [(0, .ref (B + a0)), (1, .int x1), (2, .int x2)] → W p l e ({ frames := 3, cells := 0, slots := 0, locals := 87 } : Room) s m args below meth c H locs 0 0 (MQ below (zQi D (zOwn B K (B + n)) r B n K I' R) args s 0 0 (zOwn B K (B + n))) (F0 m 15 ls [])) (hk37 : ∀ (I : zI) (x1 : Int32) (x2 : Int32) (x3 : Int32) (x4 : Int32) (x5 : Int32) (H : Heap) (locs : List Loc) (ls : Array Slot), k37 I x1 x2 x3 x4 x5 = some (r, I') → zS (zOwn B K (B + n)) D B n K I R s.heap H locs → lv_has ls 6 [(0, .ref (B + a0)), (1, .int x1), (2, .int x2), (3, .int x3), (4, .int x4), (5, .int x5)] → W p l e ({ frames := 3, cells := 0, slots := 0, locals := 87 } : Room) s m args below meth c H locs 0 0 (MQ below (zQi D (zOwn B K (B + n)) r B n K I' R) args s 0 0 (zOwn B K (B + n))) (F0 m 37 ls [])) {x1 : Int32} {x2 : Int32} {x4 : Int32} {x5 : Int32} {s0 : Int32} {s1 : Int32} (hf : f_X7_isSound_69 F K R a0 k15 k37 I x1 x2 x4 x5 s0 s1 = some (r, I')) (hW : zS (zOwn B K (B + n)) D B n K I R s.heap H locs) (hl : lv_has ls 6 [(0, .ref (B + a0)), (1, .int x1), (2, .int x2), (4, .int x4), (5, .int x5)]) : W p l e ({ frames := 3, cells := 0, slots := 0, locals := 87 } : Room) s m args below meth c H locs 0 0 (MQ below (zQi D (zOwn B K (B + n)) r B n K I' R) args s 0 0 (zOwn B K (B + n))) (F0 m 69 ls [.int s1, .int s0]) := by
  unfold f_X7_isSound_69 at hf
  refine lv_iadd X.1 X.2.1 dX7_isSound_69 ?_
  refine ze_nm hf (fun v1 hg => ?_)
  replace hf := hg
  refine lv_istore_n (i := 3) (lv' := [(3, .int v1), (0, .ref (B + a0)), (1, .int x1), (2, .int x2), (4, .int x4), (5, .int x5)]) X.1 X.2.1 dX7_isSound_70 rfl hl (by decide) rfl (fun ls hk => ?_)
  replace hl := hk
  refine lv_iload X.1 X.2.1 dX7_isSound_71 (lv_at hl 4 rfl) ?_
  refine lv_aload_n X.1 X.2.1 dX7_isSound_73 rfl (lv_at hl 1 rfl) ?_
  refine ze_gtR X 7 5 20 (RX7, TX7, 39) rfl hf hW hK0 rfl (by decide) kfl_X7_20 dX7_isSound_74 (fun o2 hg => ?_)
  replace hf := hg
  refine lv_iload X.1 X.2.1 dX7_isSound_77 (lv_at hl 4 rfl) ?_
  obtain ⟨a3, rfl, k5, hg⟩ := zh_dr hf
  replace hf := hg
  refine ze_iald X hf hW k5 dX7_isSound_79 (fun v6 hg => ?_)
  replace hf := hg
  refine lv_iadd X.1 X.2.1 dX7_isSound_80 ?_
  refine ze_nm hf (fun v7 hg => ?_)
  replace hf := hg
  refine lv_istore (lv' := [(4, .int v7), (3, .int v1), (0, .ref (B + a0)), (1, .int x1), (2, .int x2), (5, .int x5)]) X.1 X.2.1 dX7_isSound_81 hl (by decide) rfl (fun ls hk => ?_)
  replace hl := hk
  refine ze_iinc (lv' := [(5, .int (x5 + (1 : Int32))), (4, .int v7), (3, .int v1), (0, .ref (B + a0)), (1, .int x1), (2, .int x2)]) (d := 1) X.1 X.2.1 dX7_isSound_83 hl (k := 5) rfl (by decide) (by decide) rfl (fun ls hk => ?_)
  replace hl := hk
  refine lv_goto (tgt := 37) X.1 X.2.1 dX7_isSound_86 (by decide) ?_
  exact hk37 _ _ _ _ _ _ _ _ _ hf hW (lv_sub hl [3, 4, 5, 2, 1, 0] rfl)
set_option maxRecDepth 100000 in
set_option maxHeartbeats 4000000 in
theorem wg_X7_isSound_37 {F : Nat} {a0 : Nat} {k15 : zI → Int32 → Int32 → Option (Int32 × zI)} (X : zX p s m c cX7_isSound 6 RX7 D) (hr : meth.sig.returnType = some .boolean) (hlk : meth.locks = false) (hK0 : (K a0).1 = 17) (hk15 : ∀ (I : zI) (x1 : Int32) (x2 : Int32) (H : Heap) (locs : List Loc) (ls : Array Slot), k15 I x1 x2 = some (r, I') → zS (zOwn B K (B + n)) D B n K I R s.heap H locs → lv_has ls 6 [(0, .ref (B + a0)), (1, .int x1), (2, .int x2)] → W p l e ({ frames := 3, cells := 0, slots := 0, locals := 87 } : Room) s m args below meth c H locs 0 0 (MQ below (zQi D (zOwn B K (B + n)) r B n K I' R) args s 0 0 (zOwn B K (B + n))) (F0 m 15 ls [])) {kself : zI → Int32 → Int32 → Int32 → Int32 → Int32 → Option (Int32 × zI)} (hkself : ∀ (I : zI) (x1 : Int32) (x2 : Int32) (x3 : Int32) (x4 : Int32) (x5 : Int32) (H : Heap) (locs : List Loc) (ls : Array Slot), kself I x1 x2 x3 x4 x5 = some (r, I') → zS (zOwn B K (B + n)) D B n K I R s.heap H locs → lv_has ls 6 [(0, .ref (B + a0)), (1, .int x1), (2, .int x2), (3, .int x3), (4, .int x4), (5, .int x5)] → W p l e ({ frames := 3, cells := 0, slots := 0, locals := 87 } : Room) s m args below meth c H locs 0 0 (MQ below (zQi D (zOwn B K (B + n)) r B n K I' R) args s 0 0 (zOwn B K (B + n))) (F0 m 37 ls [])) {x1 : Int32} {x2 : Int32} {x3 : Int32} {x4 : Int32} {x5 : Int32} (hf : g_X7_isSound_37 F K R a0 k15 kself I x1 x2 x3 x4 x5 = some (r, I')) (hW : zS (zOwn B K (B + n)) D B n K I R s.heap H locs) (hl : lv_has ls 6 [(0, .ref (B + a0)), (1, .int x1), (2, .int x2), (3, .int x3), (4, .int x4), (5, .int x5)]) : W p l e ({ frames := 3, cells := 0, slots := 0, locals := 87 } : Room) s m args below meth c H locs 0 0 (MQ below (zQi D (zOwn B K (B + n)) r B n K I' R) args s 0 0 (zOwn B K (B + n))) (F0 m 37 ls []) := by
  unfold g_X7_isSound_37 at hf
  refine lv_iload X.1 X.2.1 dX7_isSound_37 (lv_at hl 5 rfl) ?_
  refine lv_aload_n X.1 X.2.1 dX7_isSound_39 rfl (lv_at hl 0 rfl) ?_
  refine lv_sipush (v := 5460) X.1 X.2.1 dX7_isSound_40 (by decide) ?_
  refine lv_iload_n X.1 X.2.1 dX7_isSound_43 rfl (lv_at hl 2 rfl) ?_
  obtain ⟨v8, h9, hg⟩ := zh_bd hf
  replace hf := hg
  refine ze_aftI0 (ze_runV (As := [.int (5460 : Int32), .int x2]) (rest := [.int x5]) X 7 111 (c_X7_arguments l D B n hK0 h9) vX7_arguments kml_X7_111 hW hK0 rfl rfl ⟨by decide, by decide⟩ rfl hl.1 rfl (Nat.le_of_ble_eq_true rfl) ⟨Nat.le_refl _, Nat.le_refl _⟩ dX7_isSound_44) hW (fun H locs hV => ?_)
  replace hW := hV
  refine lv_icmp_ge (tgt := 89) X.1 X.2.1 dX7_isSound_47 (by decide) (fun c10 => ?_) (fun c10 => ?_)
  · replace hf := zif_pos c10 hf
    refine lv_iload_n X.1 X.2.1 dX7_isSound_89 rfl (lv_at hl 1 rfl) ?_
    refine lv_if_eq (tgt := 115) X.1 X.2.1 dX7_isSound_90 (by decide) (fun c11 => ?_) (fun c11 => ?_)
    · replace hf := zif_pos c11 hf
      exact w_X7_isSound_115 X hr hlk hK0 hk15 hf hW (lv_sub hl [0, 2] rfl)
    · replace hf := zif_neg c11 hf
      refine lv_aload_n X.1 X.2.1 dX7_isSound_93 rfl (lv_at hl 0 rfl) ?_
      refine lv_sipush (v := 5460) X.1 X.2.1 dX7_isSound_94 (by decide) ?_
      refine lv_iload_n X.1 X.2.1 dX7_isSound_97 rfl (lv_at hl 2 rfl) ?_
      obtain ⟨v12, h13, hg⟩ := zh_bd hf
      replace hf := hg
      refine ze_aftI0 (ze_runV (As := [.int (5460 : Int32), .int x2]) (rest := []) X 7 111 (c_X7_arguments l D B n hK0 h13) vX7_arguments kml_X7_111 hW hK0 rfl rfl ⟨by decide, by decide⟩ rfl hl.1 rfl (Nat.le_of_ble_eq_true rfl) ⟨Nat.le_refl _, Nat.le_refl _⟩ dX7_isSound_98) hW (fun H locs hV => ?_)
      replace hW := hV
      refine lv_bipush (v := 8) X.1 X.2.1 dX7_isSound_101 (by decide) ?_
      refine lv_icmp_gt (tgt := 115) X.1 X.2.1 dX7_isSound_103 (by decide) (fun c14 => ?_) (fun c14 => ?_)
      · replace hf := zif_pos c14 hf
        exact w_X7_isSound_115 X hr hlk hK0 hk15 hf hW (lv_sub hl [0, 2] rfl)
      · replace hf := zif_neg c14 hf
        refine lv_iload_n X.1 X.2.1 dX7_isSound_106 rfl (lv_at hl 3 rfl) ?_
        refine lv_iconst (v := 2) X.1 X.2.1 dX7_isSound_107 (by decide) ?_
        refine lv_icmp_ge (tgt := 115) X.1 X.2.1 dX7_isSound_108 (by decide) (fun c15 => ?_) (fun c15 => ?_)
        · replace hf := zif_pos c15 hf
          exact w_X7_isSound_115 X hr hlk hK0 hk15 hf hW (lv_sub hl [0, 2] rfl)
        · replace hf := zif_neg c15 hf
          refine lv_iconst (v := 1) X.1 X.2.1 dX7_isSound_111 (by decide) ?_
          refine lv_goto (tgt := 116) X.1 X.2.1 dX7_isSound_112 (by decide) ?_
          exact w_X7_isSound_116 X hr hlk hK0 hk15 hf hW (lv_sub hl [0, 2] rfl)
  · replace hf := zif_neg c10 hf
    refine lv_iload_n X.1 X.2.1 dX7_isSound_50 rfl (lv_at hl 3 rfl) ?_
    refine lv_aload_n X.1 X.2.1 dX7_isSound_51 rfl (lv_at hl 0 rfl) ?_
    refine lv_sipush (v := 5460) X.1 X.2.1 dX7_isSound_52 (by decide) ?_
    refine lv_iload X.1 X.2.1 dX7_isSound_55 (lv_at hl 4 rfl) ?_
    obtain ⟨v16, h17, hg⟩ := zh_bd hf
    replace hf := hg
    refine ze_aftI0 (ze_runV (As := [.int (5460 : Int32), .int x4]) (rest := [.int x3]) X 7 119 (c_X7_sort l D B n hK0 h17) vX7_sort kml_X7_119 hW hK0 rfl rfl ⟨by decide, by decide⟩ rfl hl.1 rfl (Nat.le_of_ble_eq_true rfl) ⟨Nat.le_refl _, Nat.le_refl _⟩ dX7_isSound_57) hW (fun H locs hV => ?_)
    replace hW := hV
    refine lv_iconst (v := 3) X.1 X.2.1 dX7_isSound_60 (by decide) ?_
    refine lv_icmp_ne (tgt := 68) X.1 X.2.1 dX7_isSound_61 (by decide) (fun c18 => ?_) (fun c18 => ?_)
    · replace hf := zif_neg c18 hf
      refine lv_iconst (v := 0) X.1 X.2.1 dX7_isSound_68 (by decide) ?_
      exact w_X7_isSound_69 X hr hlk hK0 hk15 hkself hf hW (lv_sub hl [0, 1, 2, 4, 5] rfl)
    · replace hf := zif_pos c18 hf
      refine lv_iconst (v := 1) X.1 X.2.1 dX7_isSound_64 (by decide) ?_
      refine lv_goto (tgt := 69) X.1 X.2.1 dX7_isSound_65 (by decide) ?_
      exact w_X7_isSound_69 X hr hlk hK0 hk15 hkself hf hW (lv_sub hl [0, 1, 2, 4, 5] rfl)
set_option maxRecDepth 100000 in
set_option maxHeartbeats 4000000 in
theorem w_X7_isSound_37 {F : Nat} {a0 : Nat} {k15 : zI → Int32 → Int32 → Option (Int32 × zI)} (X : zX p s m c cX7_isSound 6 RX7 D) (hr : meth.sig.returnType = some .boolean) (hlk : meth.locks = false) (hK0 : (K a0).1 = 17) (hk15 : ∀ (I : zI) (x1 : Int32) (x2 : Int32) (H : Heap) (locs : List Loc) (ls : Array Slot), k15 I x1 x2 = some (r, I') → zS (zOwn B K (B + n)) D B n K I R s.heap H locs → lv_has ls 6 [(0, .ref (B + a0)), (1, .int x1), (2, .int x2)] → W p l e ({ frames := 3, cells := 0, slots := 0, locals := 87 } : Room) s m args below meth c H locs 0 0 (MQ below (zQi D (zOwn B K (B + n)) r B n K I' R) args s 0 0 (zOwn B K (B + n))) (F0 m 15 ls [])) {t : Nat} {x1 : Int32} {x2 : Int32} {x3 : Int32} {x4 : Int32} {x5 : Int32} (hf : f_X7_isSound_37 F K R a0 k15 t I x1 x2 x3 x4 x5 = some (r, I')) (hW : zS (zOwn B K (B + n)) D B n K I R s.heap H locs) (hl : lv_has ls 6 [(0, .ref (B + a0)), (1, .int x1), (2, .int x2), (3, .int x3), (4, .int x4), (5, .int x5)]) : W p l e ({ frames := 3, cells := 0, slots := 0, locals := 87 } : Room) s m args below meth c H locs 0 0 (MQ below (zQi D (zOwn B K (B + n)) r B n K I' R) args s 0 0 (zOwn B K (B + n))) (F0 m 37 ls []) := by
  have key : ∀ t : Nat, ∀ (I : zI) (x1 : Int32) (x2 : Int32) (x3 : Int32) (x4 : Int32) (x5 : Int32) (H : Heap) (locs : List Loc) (ls : Array Slot), f_X7_isSound_37 F K R a0 k15 t I x1 x2 x3 x4 x5 = some (r, I') → zS (zOwn B K (B + n)) D B n K I R s.heap H locs → lv_has ls 6 [(0, .ref (B + a0)), (1, .int x1), (2, .int x2), (3, .int x3), (4, .int x4), (5, .int x5)] → W p l e ({ frames := 3, cells := 0, slots := 0, locals := 87 } : Room) s m args below meth c H locs 0 0 (MQ below (zQi D (zOwn B K (B + n)) r B n K I' R) args s 0 0 (zOwn B K (B + n))) (F0 m 37 ls []) := by
    intro t
    induction t with
    | zero =>
      intro I x1 x2 x3 x4 x5 H locs ls hf hW hl
      cases hf
    | succ t ih =>
      intro I x1 x2 x3 x4 x5 H locs ls hf hW hl
      exact wg_X7_isSound_37 X hr hlk hK0 hk15 ih hf hW hl
  exact key t _ _ _ _ _ _ _ _ _ hf hW hl
set_option maxRecDepth 100000 in
set_option maxHeartbeats 4000000 in
theorem wg_X7_isSound_15 {F : Nat} {a0 : Nat}  (X : zX p s m c cX7_isSound 6 RX7 D) (hr : meth.sig.returnType = some .boolean) (hlk : meth.locks = false) (hK0 : (K a0).1 = 17)  {kself : zI → Int32 → Int32 → Option (Int32 × zI)} (hkself : ∀ (I : zI) (x1 : Int32) (x2 : Int32) (H : Heap) (locs : List Loc) (ls : Array Slot), kself I x1 x2 = some (r, I') → zS (zOwn B K (B + n)) D B n K I R s.heap H locs → lv_has ls 6 [(0, .ref (B + a0)), (1, .int x1), (2, .int x2)] → W p l e ({ frames := 3, cells := 0, slots := 0, locals := 87 } : Room) s m args below meth c H locs 0 0 (MQ below (zQi D (zOwn B K (B + n)) r B n K I' R) args s 0 0 (zOwn B K (B + n))) (F0 m 15 ls [])) {x1 : Int32} {x2 : Int32} (hf : g_X7_isSound_15 F K R a0  kself I x1 x2 = some (r, I')) (hW : zS (zOwn B K (B + n)) D B n K I R s.heap H locs) (hl : lv_has ls 6 [(0, .ref (B + a0)), (1, .int x1), (2, .int x2)]) : W p l e ({ frames := 3, cells := 0, slots := 0, locals := 87 } : Room) s m args below meth c H locs 0 0 (MQ below (zQi D (zOwn B K (B + n)) r B n K I' R) args s 0 0 (zOwn B K (B + n))) (F0 m 15 ls []) := by
  unfold g_X7_isSound_15 at hf
  refine lv_iload_n X.1 X.2.1 dX7_isSound_15 rfl (lv_at hl 2 rfl) ?_
  refine lv_aload_n X.1 X.2.1 dX7_isSound_16 rfl (lv_at hl 0 rfl) ?_
  refine ze_gtR X 7 0 7 (RX7, TX7, 39) rfl hf hW hK0 rfl (by decide) kfl_X7_7 dX7_isSound_17 (fun o19 hg => ?_)
  replace hf := hg
  refine lv_sipush (v := 5460) X.1 X.2.1 dX7_isSound_20 (by decide) ?_
  obtain ⟨a20, rfl, k22, hg⟩ := zh_dr hf
  replace hf := hg
  refine ze_iald X hf hW k22 dX7_isSound_23 (fun v23 hg => ?_)
  replace hf := hg
  refine lv_icmp_ge (tgt := 123) X.1 X.2.1 dX7_isSound_24 (by decide) (fun c24 => ?_) (fun c24 => ?_)
  · replace hf := zif_pos c24 hf
    refine lv_iload_n X.1 X.2.1 dX7_isSound_123 rfl (lv_at hl 1 rfl) ?_
    obtain ⟨hv25, hg⟩ := zh_if hf
    replace hf := hg
    obtain ⟨rfl, rfl⟩ := zi2 hf
    exact ze_retZ X hr hlk hv25 hW (Nat.le_refl _) (Nat.le_refl _) dX7_isSound_124
  · replace hf := zif_neg c24 hf
    refine lv_iconst (v := 0) X.1 X.2.1 dX7_isSound_27 (by decide) ?_
    refine lv_istore_n (i := 3) (lv' := [(3, .int (0 : Int32)), (0, .ref (B + a0)), (1, .int x1), (2, .int x2)]) X.1 X.2.1 dX7_isSound_28 rfl hl (by decide) rfl (fun ls hk => ?_)
    replace hl := hk
    refine lv_iload_n X.1 X.2.1 dX7_isSound_29 rfl (lv_at hl 3 rfl) ?_
    refine lv_iconst (v := 1) X.1 X.2.1 dX7_isSound_30 (by decide) ?_
    refine lv_iadd X.1 X.2.1 dX7_isSound_31 ?_
    refine ze_nm hf (fun v26 hg => ?_)
    replace hf := hg
    refine lv_istore (lv' := [(4, .int v26), (3, .int (0 : Int32)), (0, .ref (B + a0)), (1, .int x1), (2, .int x2)]) X.1 X.2.1 dX7_isSound_32 hl (by decide) rfl (fun ls hk => ?_)
    replace hl := hk
    refine lv_iconst (v := 0) X.1 X.2.1 dX7_isSound_34 (by decide) ?_
    refine lv_istore (lv' := [(5, .int (0 : Int32)), (4, .int v26), (3, .int (0 : Int32)), (0, .ref (B + a0)), (1, .int x1), (2, .int x2)]) X.1 X.2.1 dX7_isSound_35 hl (by decide) rfl (fun ls hk => ?_)
    replace hl := hk
    exact w_X7_isSound_37 X hr hlk hK0 hkself hf hW (lv_sub hl [3, 4, 5, 2, 1, 0] rfl)
set_option maxRecDepth 100000 in
set_option maxHeartbeats 4000000 in
theorem w_X7_isSound_15 {F : Nat} {a0 : Nat}  (X : zX p s m c cX7_isSound 6 RX7 D) (hr : meth.sig.returnType = some .boolean) (hlk : meth.locks = false) (hK0 : (K a0).1 = 17)  {t : Nat} {x1 : Int32} {x2 : Int32} (hf : f_X7_isSound_15 F K R a0  t I x1 x2 = some (r, I')) (hW : zS (zOwn B K (B + n)) D B n K I R s.heap H locs) (hl : lv_has ls 6 [(0, .ref (B + a0)), (1, .int x1), (2, .int x2)]) : W p l e ({ frames := 3, cells := 0, slots := 0, locals := 87 } : Room) s m args below meth c H locs 0 0 (MQ below (zQi D (zOwn B K (B + n)) r B n K I' R) args s 0 0 (zOwn B K (B + n))) (F0 m 15 ls []) := by
  have key : ∀ t : Nat, ∀ (I : zI) (x1 : Int32) (x2 : Int32) (H : Heap) (locs : List Loc) (ls : Array Slot), f_X7_isSound_15 F K R a0  t I x1 x2 = some (r, I') → zS (zOwn B K (B + n)) D B n K I R s.heap H locs → lv_has ls 6 [(0, .ref (B + a0)), (1, .int x1), (2, .int x2)] → W p l e ({ frames := 3, cells := 0, slots := 0, locals := 87 } : Room) s m args below meth c H locs 0 0 (MQ below (zQi D (zOwn B K (B + n)) r B n K I' R) args s 0 0 (zOwn B K (B + n))) (F0 m 15 ls []) := by
    intro t
    induction t with
    | zero =>
      intro I x1 x2 H locs ls hf hW hl
      cases hf
    | succ t ih =>
      intro I x1 x2 H locs ls hf hW hl
      exact wg_X7_isSound_15 X hr hlk hK0  ih hf hW hl
  exact key t _ _ _ _ _ _ hf hW hl
set_option maxRecDepth 100000 in
set_option maxHeartbeats 4000000 in
theorem c_X7_isSound (l : Launch) (D : zD) (B n : Nat) {F : Nat} {K : zK} {I : zI} {R : zR} {a0 : Nat}  {r : Int32} {I' : zI} (hK0 : (K a0).1 = 17) (hf : f_X7_isSound F K I R a0  = some (r, I')) : zM l yX7_isSound cX7_isSound 6 (some .boolean) ({ frames := 3, cells := 0, slots := 0, locals := 87 } : Room) D B n K I R [.ref (B + a0)] (zQi D (zOwn B K (B + n)) r B n K I' R) := by
  refine ze_entry (lv0 := [(0, .ref (B + a0))]) (by decide) (by simp [lg_sl, zcat, zcat_i, zcat_r, zcat_l]) (by simp [lv_args, zcat, zcat_i, zcat_r, zcat_l]) (fun p e s m below meth c X hr hlk hin hW ls hl => ?_)
  unfold f_X7_isSound at hf
  refine lv_aload_n X.1 X.2.1 dX7_isSound_0 rfl (lv_at hl 0 rfl) ?_
  refine lv_sipush (v := 5460) X.1 X.2.1 dX7_isSound_1 (by decide) ?_
  refine lv_aload_n X.1 X.2.1 dX7_isSound_4 rfl (lv_at hl 0 rfl) ?_
  refine ze_gtR X 7 5 20 (RX7, TX7, 39) rfl hf hW hK0 rfl (by decide) kfl_X7_20 dX7_isSound_5 (fun o27 hg => ?_)
  replace hf := hg
  obtain ⟨I28, h29, hg⟩ := zh_bd hf
  replace hf := hg
  refine ze_aftV0 (ze_runV (As := [.int (5460 : Int32), zrf B o27]) (rest := []) X 7 115 (c_X7_counts l D B n hK0 h29) vX7_counts kml_X7_115 hW hK0 rfl rfl ⟨by decide, by decide⟩ rfl hl.1 rfl (Nat.le_of_ble_eq_true rfl) ⟨Nat.le_refl _, Nat.le_refl _⟩ dX7_isSound_8) hW (fun H locs hV => ?_)
  replace hW := hV
  refine lv_iconst (v := 1) X.1 X.2.1 dX7_isSound_11 (by decide) ?_
  refine lv_istore_n (i := 1) (lv' := [(1, .int (1 : Int32)), (0, .ref (B + a0))]) X.1 X.2.1 dX7_isSound_12 rfl hl (by decide) rfl (fun ls hk => ?_)
  replace hl := hk
  refine lv_iconst (v := 0) X.1 X.2.1 dX7_isSound_13 (by decide) ?_
  refine lv_istore_n (i := 2) (lv' := [(2, .int (0 : Int32)), (1, .int (1 : Int32)), (0, .ref (B + a0))]) X.1 X.2.1 dX7_isSound_14 rfl hl (by decide) rfl (fun ls hk => ?_)
  replace hl := hk
  exact w_X7_isSound_15 X hr hlk hK0 hf hW (lv_sub hl [2, 1, 0] rfl)
end

/-! LeastPatternsModel.order(II)I -/
def g_X7_order_31 (F : Nat) (K : zK) (I : zI) (R : zR) (a0 : Nat)  (kself : Int32 → Int32 → Int32 → Option (Int32)) (x1 : Int32) (x2 : Int32) (x3 : Int32) : Option (Int32) :=
  zbd (some (R a0 5)) fun o1 =>
  zbd (zdr K o1 1) fun a2 =>
  zbd (zrd K I a2 x1) fun v5 =>
  if ((3 : Int32) * v5) ≤ x3 then
    some (0 : Int32)
  else
    zbd (some (R a0 0)) fun o7 =>
    zbd (zdr K o7 1) fun a8 =>
    zbd (zrd K I a8 (((5461 : Int32) + ((3 : Int32) * x1)) + x3)) fun v11 =>
    zbd (some (R a0 0)) fun o12 =>
    zbd (zdr K o12 1) fun a13 =>
    zbd (zrd K I a13 (((5461 : Int32) + ((3 : Int32) * x2)) + x3)) fun v16 =>
    zbd (some (v11 - v16)) fun v17 =>
    if v17 = (0 : Int32) then
      kself x1 x2 (x3 + (1 : Int32))
    else
      some v17
def f_X7_order_31 (F : Nat) (K : zK) (I : zI) (R : zR) (a0 : Nat)  : Nat → Int32 → Int32 → Int32 → Option (Int32)
  | 0, _, _, _ => none
  | t + 1, x1, x2, x3 => g_X7_order_31 F K I R a0  (f_X7_order_31 F K I R a0  t) x1 x2 x3
def f_X7_order (F : Nat) (K : zK) (I : zI) (R : zR) (a0 : Nat) (x1 : Int32) (x2 : Int32) : Option (Int32) :=
  zbd (some (R a0 5)) fun o19 =>
  zbd (zdr K o19 1) fun a20 =>
  zbd (zrd K I a20 x1) fun v23 =>
  zbd (some (R a0 5)) fun o24 =>
  zbd (zdr K o24 1) fun a25 =>
  zbd (zrd K I a25 x2) fun v28 =>
  if v23 = v28 then
    f_X7_order_31 F K I R a0 F x1 x2 (0 : Int32)
  else
    zbd (some (R a0 5)) fun o30 =>
    zbd (zdr K o30 1) fun a31 =>
    zbd (zrd K I a31 x1) fun v34 =>
    zbd (some (R a0 5)) fun o35 =>
    zbd (zdr K o35 1) fun a36 =>
    zbd (zrd K I a36 x2) fun v39 =>
    some (v34 - v39)
section
variable {p : Program} {l : Launch} {e : Env} {s : State} {m : MethodId} {args : Array Value} {below : List Frame} {meth : Method} {c : Code} {D : zD} {B n n0 n' fd ld : Nat} {K K0 K' : zK} {I I' : zI} {R R' : zR} {H : Heap} {locs : List Loc} {ls : Array Slot} {r : Int32}
set_option maxRecDepth 100000 in
set_option maxHeartbeats 4000000 in
theorem wg_X7_order_31 {F : Nat} {a0 : Nat}  (X : zX p s m c cX7_order 5 RX7 D) (hr : meth.sig.returnType = some .int) (hlk : meth.locks = false) (hK0 : (K a0).1 = 17)  {kself : Int32 → Int32 → Int32 → Option (Int32)} (hkself : ∀ (x1 : Int32) (x2 : Int32) (x3 : Int32) (H : Heap) (locs : List Loc) (ls : Array Slot), kself x1 x2 x3 = some r → zS (zOwn B K (B + n)) D B n K I R s.heap H locs → lv_has ls 5 [(0, .ref (B + a0)), (1, .int x1), (2, .int x2), (3, .int x3)] → W p l e ({ frames := 1, cells := 0, slots := 0, locals := 40 } : Room) s m args below meth c H locs 0 0 (MQ below (zQi D (zOwn B K (B + n)) r B n K I R) args s 0 0 (zOwn B K (B + n))) (F0 m 31 ls [])) {x1 : Int32} {x2 : Int32} {x3 : Int32} (hf : g_X7_order_31 F K I R a0  kself x1 x2 x3 = some r) (hW : zS (zOwn B K (B + n)) D B n K I R s.heap H locs) (hl : lv_has ls 5 [(0, .ref (B + a0)), (1, .int x1), (2, .int x2), (3, .int x3)]) : W p l e ({ frames := 1, cells := 0, slots := 0, locals := 40 } : Room) s m args below meth c H locs 0 0 (MQ below (zQi D (zOwn B K (B + n)) r B n K I R) args s 0 0 (zOwn B K (B + n))) (F0 m 31 ls []) := by
  unfold g_X7_order_31 at hf
  refine lv_iload_n X.1 X.2.1 dX7_order_31 rfl (lv_at hl 3 rfl) ?_
  refine lv_iconst (v := 3) X.1 X.2.1 dX7_order_32 (by decide) ?_
  refine lv_aload_n X.1 X.2.1 dX7_order_33 rfl (lv_at hl 0 rfl) ?_
  refine ze_gtR X 7 5 20 (RX7, TX7, 39) rfl hf hW hK0 rfl (by decide) kfl_X7_20 dX7_order_34 (fun o1 hg => ?_)
  replace hf := hg
  refine lv_iload_n X.1 X.2.1 dX7_order_37 rfl (lv_at hl 1 rfl) ?_
  obtain ⟨a2, rfl, k4, hg⟩ := zh_dr hf
  replace hf := hg
  refine ze_iald X hf hW k4 dX7_order_38 (fun v5 hg => ?_)
  replace hf := hg
  refine lv_imul X.1 X.2.1 dX7_order_39 ?_
  refine lv_icmp_ge (tgt := 88) X.1 X.2.1 dX7_order_40 (by decide) (fun c6 => ?_) (fun c6 => ?_)
  · replace hf := zif_pos c6 hf
    refine lv_iconst (v := 0) X.1 X.2.1 dX7_order_88 (by decide) ?_
    obtain rfl := zi1 hf
    exact ze_retI X hr hlk hW (Nat.le_refl _) (Nat.le_refl _) dX7_order_89
  · replace hf := zif_neg c6 hf
    refine lv_aload_n X.1 X.2.1 dX7_order_43 rfl (lv_at hl 0 rfl) ?_
    refine ze_gtR X 7 0 7 (RX7, TX7, 39) rfl hf hW hK0 rfl (by decide) kfl_X7_7 dX7_order_44 (fun o7 hg => ?_)
    replace hf := hg
    refine lv_sipush (v := 5461) X.1 X.2.1 dX7_order_47 (by decide) ?_
    refine lv_iconst (v := 3) X.1 X.2.1 dX7_order_50 (by decide) ?_
    refine lv_iload_n X.1 X.2.1 dX7_order_51 rfl (lv_at hl 1 rfl) ?_
    refine lv_imul X.1 X.2.1 dX7_order_52 ?_
    refine lv_iadd X.1 X.2.1 dX7_order_53 ?_
    refine lv_iload_n X.1 X.2.1 dX7_order_54 rfl (lv_at hl 3 rfl) ?_
    refine lv_iadd X.1 X.2.1 dX7_order_55 ?_
    obtain ⟨a8, rfl, k10, hg⟩ := zh_dr hf
    replace hf := hg
    refine ze_iald X hf hW k10 dX7_order_56 (fun v11 hg => ?_)
    replace hf := hg
    refine lv_aload_n X.1 X.2.1 dX7_order_57 rfl (lv_at hl 0 rfl) ?_
    refine ze_gtR X 7 0 7 (RX7, TX7, 39) rfl hf hW hK0 rfl (by decide) kfl_X7_7 dX7_order_58 (fun o12 hg => ?_)
    replace hf := hg
    refine lv_sipush (v := 5461) X.1 X.2.1 dX7_order_61 (by decide) ?_
    refine lv_iconst (v := 3) X.1 X.2.1 dX7_order_64 (by decide) ?_
    refine lv_iload_n X.1 X.2.1 dX7_order_65 rfl (lv_at hl 2 rfl) ?_
    refine lv_imul X.1 X.2.1 dX7_order_66 ?_
    refine lv_iadd X.1 X.2.1 dX7_order_67 ?_
    refine lv_iload_n X.1 X.2.1 dX7_order_68 rfl (lv_at hl 3 rfl) ?_
    refine lv_iadd X.1 X.2.1 dX7_order_69 ?_
    obtain ⟨a13, rfl, k15, hg⟩ := zh_dr hf
    replace hf := hg
    refine ze_iald X hf hW k15 dX7_order_70 (fun v16 hg => ?_)
    replace hf := hg
    refine lv_isub X.1 X.2.1 dX7_order_71 ?_
    refine ze_nm hf (fun v17 hg => ?_)
    replace hf := hg
    refine lv_istore (lv' := [(4, .int v17), (0, .ref (B + a0)), (1, .int x1), (2, .int x2), (3, .int x3)]) X.1 X.2.1 dX7_order_72 hl (by decide) rfl (fun ls hk => ?_)
    replace hl := hk
    refine lv_iload X.1 X.2.1 dX7_order_74 (lv_at hl 0 rfl) ?_
    refine lv_if_eq (tgt := 82) X.1 X.2.1 dX7_order_76 (by decide) (fun c18 => ?_) (fun c18 => ?_)
    · replace hf := zif_pos c18 hf
      refine ze_iinc (lv' := [(3, .int (x3 + (1 : Int32))), (4, .int v17), (0, .ref (B + a0)), (1, .int x1), (2, .int x2)]) (d := 1) X.1 X.2.1 dX7_order_82 hl (k := 4) rfl (by decide) (by decide) rfl (fun ls hk => ?_)
      replace hl := hk
      refine lv_goto (tgt := 31) X.1 X.2.1 dX7_order_85 (by decide) ?_
      exact hkself _ _ _ _ _ _ hf hW (lv_sub hl [2, 3, 4, 0] rfl)
    · replace hf := zif_neg c18 hf
      refine lv_iload X.1 X.2.1 dX7_order_79 (lv_at hl 0 rfl) ?_
      obtain rfl := zi1 hf
      exact ze_retI X hr hlk hW (Nat.le_refl _) (Nat.le_refl _) dX7_order_81
set_option maxRecDepth 100000 in
set_option maxHeartbeats 4000000 in
theorem w_X7_order_31 {F : Nat} {a0 : Nat}  (X : zX p s m c cX7_order 5 RX7 D) (hr : meth.sig.returnType = some .int) (hlk : meth.locks = false) (hK0 : (K a0).1 = 17)  {t : Nat} {x1 : Int32} {x2 : Int32} {x3 : Int32} (hf : f_X7_order_31 F K I R a0  t x1 x2 x3 = some r) (hW : zS (zOwn B K (B + n)) D B n K I R s.heap H locs) (hl : lv_has ls 5 [(0, .ref (B + a0)), (1, .int x1), (2, .int x2), (3, .int x3)]) : W p l e ({ frames := 1, cells := 0, slots := 0, locals := 40 } : Room) s m args below meth c H locs 0 0 (MQ below (zQi D (zOwn B K (B + n)) r B n K I R) args s 0 0 (zOwn B K (B + n))) (F0 m 31 ls []) := by
  have key : ∀ t : Nat, ∀ (x1 : Int32) (x2 : Int32) (x3 : Int32) (H : Heap) (locs : List Loc) (ls : Array Slot), f_X7_order_31 F K I R a0  t x1 x2 x3 = some r → zS (zOwn B K (B + n)) D B n K I R s.heap H locs → lv_has ls 5 [(0, .ref (B + a0)), (1, .int x1), (2, .int x2), (3, .int x3)] → W p l e ({ frames := 1, cells := 0, slots := 0, locals := 40 } : Room) s m args below meth c H locs 0 0 (MQ below (zQi D (zOwn B K (B + n)) r B n K I R) args s 0 0 (zOwn B K (B + n))) (F0 m 31 ls []) := by
    intro t
    induction t with
    | zero =>
      intro x1 x2 x3 H locs ls hf hW hl
      cases hf
    | succ t ih =>
      intro x1 x2 x3 H locs ls hf hW hl
      exact wg_X7_order_31 X hr hlk hK0  ih hf hW hl
  exact key t _ _ _ _ _ _ hf hW hl
set_option maxRecDepth 100000 in
set_option maxHeartbeats 4000000 in
theorem c_X7_order (l : Launch) (D : zD) (B n : Nat) {F : Nat} {K : zK} {I : zI} {R : zR} {a0 : Nat} {x1 : Int32} {x2 : Int32} {r : Int32} (hK0 : (K a0).1 = 17) (hf : f_X7_order F K I R a0 x1 x2 = some r) : zM l yX7_order cX7_order 5 (some .int) ({ frames := 1, cells := 0, slots := 0, locals := 40 } : Room) D B n K I R [.ref (B + a0), .int x1, .int x2] (zQi D (zOwn B K (B + n)) r B n K I R) := by
  refine ze_entry (lv0 := [(0, .ref (B + a0)), (1, .int x1), (2, .int x2)]) (by decide) (by simp [lg_sl, zcat, zcat_i, zcat_r, zcat_l]) (by simp [lv_args, zcat, zcat_i, zcat_r, zcat_l]) (fun p e s m below meth c X hr hlk hin hW ls hl => ?_)
  unfold f_X7_order at hf
  refine lv_aload_n X.1 X.2.1 dX7_order_0 rfl (lv_at hl 0 rfl) ?_
  refine ze_gtR X 7 5 20 (RX7, TX7, 39) rfl hf hW hK0 rfl (by decide) kfl_X7_20 dX7_order_1 (fun o19 hg => ?_)
  replace hf := hg
  refine lv_iload_n X.1 X.2.1 dX7_order_4 rfl (lv_at hl 1 rfl) ?_
  obtain ⟨a20, rfl, k22, hg⟩ := zh_dr hf
  replace hf := hg
  refine ze_iald X hf hW k22 dX7_order_5 (fun v23 hg => ?_)
  replace hf := hg
  refine lv_aload_n X.1 X.2.1 dX7_order_6 rfl (lv_at hl 0 rfl) ?_
  refine ze_gtR X 7 5 20 (RX7, TX7, 39) rfl hf hW hK0 rfl (by decide) kfl_X7_20 dX7_order_7 (fun o24 hg => ?_)
  replace hf := hg
  refine lv_iload_n X.1 X.2.1 dX7_order_10 rfl (lv_at hl 2 rfl) ?_
  obtain ⟨a25, rfl, k27, hg⟩ := zh_dr hf
  replace hf := hg
  refine ze_iald X hf hW k27 dX7_order_11 (fun v28 hg => ?_)
  replace hf := hg
  refine lv_icmp_eq (tgt := 29) X.1 X.2.1 dX7_order_12 (by decide) (fun c29 => ?_) (fun c29 => ?_)
  · replace hf := zif_pos c29 hf
    refine lv_iconst (v := 0) X.1 X.2.1 dX7_order_29 (by decide) ?_
    refine lv_istore_n (i := 3) (lv' := [(3, .int (0 : Int32)), (0, .ref (B + a0)), (1, .int x1), (2, .int x2)]) X.1 X.2.1 dX7_order_30 rfl hl (by decide) rfl (fun ls hk => ?_)
    replace hl := hk
    exact w_X7_order_31 X hr hlk hK0 hf hW (lv_sub hl [1, 2, 3, 0] rfl)
  · replace hf := zif_neg c29 hf
    refine lv_aload_n X.1 X.2.1 dX7_order_15 rfl (lv_at hl 0 rfl) ?_
    refine ze_gtR X 7 5 20 (RX7, TX7, 39) rfl hf hW hK0 rfl (by decide) kfl_X7_20 dX7_order_16 (fun o30 hg => ?_)
    replace hf := hg
    refine lv_iload_n X.1 X.2.1 dX7_order_19 rfl (lv_at hl 1 rfl) ?_
    obtain ⟨a31, rfl, k33, hg⟩ := zh_dr hf
    replace hf := hg
    refine ze_iald X hf hW k33 dX7_order_20 (fun v34 hg => ?_)
    replace hf := hg
    refine lv_aload_n X.1 X.2.1 dX7_order_21 rfl (lv_at hl 0 rfl) ?_
    refine ze_gtR X 7 5 20 (RX7, TX7, 39) rfl hf hW hK0 rfl (by decide) kfl_X7_20 dX7_order_22 (fun o35 hg => ?_)
    replace hf := hg
    refine lv_iload_n X.1 X.2.1 dX7_order_25 rfl (lv_at hl 2 rfl) ?_
    obtain ⟨a36, rfl, k38, hg⟩ := zh_dr hf
    replace hf := hg
    refine ze_iald X hf hW k38 dX7_order_26 (fun v39 hg => ?_)
    replace hf := hg
    refine lv_isub X.1 X.2.1 dX7_order_27 ?_
    obtain rfl := zi1 hf
    exact ze_retI X hr hlk hW (Nat.le_refl _) (Nat.le_refl _) dX7_order_28
end
