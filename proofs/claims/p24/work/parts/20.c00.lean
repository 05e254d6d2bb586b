/-! LeastPatterns$Term.<init>()V -/
def f_X5_init (F : Nat) (n : Nat) (K : zK) (I : zI) (R : zR) (a0 : Nat)  : Option (Nat × zK × zI × zR) :=
  zbd3 (some (n + 1, zset K n (1, 32), zclr I n 0)) fun n1 K2 I3 =>
  if (K2 a0).1 = 15 then
  zbd (some (zup R a0 0 (some n))) fun R5 =>
  zbd3 (some (n1 + 1, zset K2 n1 (1, 32), zclr I3 n1 0)) fun n6 K7 I8 =>
  if (K7 a0).1 = 15 then
  zbd (some (zup R5 a0 1 (some n1))) fun R10 =>
  zbd3 (some (n6 + 1, zset K7 n6 (1, 32), zclr I8 n6 0)) fun n11 K12 I13 =>
  if (K12 a0).1 = 15 then
  zbd (some (zup R10 a0 2 (some n6))) fun R15 =>
  zbd (some (zup I13 a0 3 (0 : Int32))) fun I16 =>
  some (n11, K12, I16, R15)
  else none
  else none
  else none
section
variable {p : Program} {l : Launch} {e : Env} {s : State} {m : MethodId} {args : Array Value} {below : List Frame} {meth : Method} {c : Code} {D : zD} {B n n0 n' fd ld : Nat} {K K0 K' : zK} {I I' : zI} {R R' : zR} {H : Heap} {locs : List Loc} {ls : Array Slot} {r : Int32}
set_option maxRecDepth 100000 in
set_option maxHeartbeats 4000000 in
theorem c_X5_init (l : Launch) (D : zD) (B n : Nat) {F : Nat} {K : zK} {I : zI} {R : zR} {a0 : Nat}  {n' : Nat} {K' : zK} {I' : zI} {R' : zR} (hf : f_X5_init F n K I R a0  = some (n', K', I', R')) : zM l yX5_init cX5_init 1 (none) ({ frames := 1, cells := 3, slots := 96, locals := 40 } : Room) D B n K I R [.ref (B + a0)] (zQv D (zOwn B K (B + n)) B n' K' I' R') := by
  refine ze_entry (lv0 := [(0, .ref (B + a0))]) (by decide) (by simp [lg_sl, zcat, zcat_i, zcat_r, zcat_l]) (by simp [lv_args, zcat, zcat_i, zcat_r, zcat_l]) (fun p e s m below meth c X hr hlk hin hW ls hl => ?_)
  unfold f_X5_init at hf
  have b1 : (0 : Nat) ≤ 0 := Nat.le_refl _
  refine lv_aload_n X.1 X.2.1 dX5_init_0 rfl (lv_at hl 0 rfl) ?_
  refine ze_obj X hl.1 kml_X5_3 kobj1 kobj2 (by decide) (by decide) dX5_init_1 ?_
  refine lv_aload_n X.1 X.2.1 dX5_init_4 rfl (lv_at hl 0 rfl) ?_
  refine lv_bipush (v := 32) X.1 X.2.1 dX5_init_5 (by decide) ?_
  refine ze_nwI (N := 32) X hf kar_int (by decide) (by decide) (by decide) hW (by show _ ≤ (3 : Nat); (try dsimp only); omega) (by show _ ≤ (96 : Nat); (try dsimp only); omega) dX5_init_7 (fun n1 K2 I3 H hg hV => ?_)
  replace hf := hg
  replace hW := hV
  obtain ⟨k4, hg⟩ := zh_if hf
  replace hf := hg
  refine ze_putRF (ty := .array .int) (x := (some n)) X hin 5 0 9 (RX5, TX5, 4) rfl (Or.inr ⟨_, rfl⟩) hf hW k4 rfl (by decide) kfl_X5_9 rfl rfl (by decide +kernel) dX5_init_9 (fun R5 H locs hg hV => ?_)
  replace hf := hg
  replace hW := hV
  refine lv_aload_n X.1 X.2.1 dX5_init_12 rfl (lv_at hl 0 rfl) ?_
  refine lv_bipush (v := 32) X.1 X.2.1 dX5_init_13 (by decide) ?_
  refine ze_nwI (N := 32) X hf kar_int (by decide) (by decide) (by decide) hW (by show _ ≤ (3 : Nat); (try dsimp only); omega) (by show _ ≤ (96 : Nat); (try dsimp only); omega) dX5_init_15 (fun n6 K7 I8 H hg hV => ?_)
  replace hf := hg
  replace hW := hV
  obtain ⟨k9, hg⟩ := zh_if hf
  replace hf := hg
  refine ze_putRF (ty := .array .int) (x := (some n1)) X hin 5 1 15 (RX5, TX5, 4) rfl (Or.inr ⟨_, rfl⟩) hf hW k9 rfl (by decide) kfl_X5_15 rfl rfl (by decide +kernel) dX5_init_17 (fun R10 H locs hg hV => ?_)
  replace hf := hg
  replace hW := hV
  refine lv_aload_n X.1 X.2.1 dX5_init_20 rfl (lv_at hl 0 rfl) ?_
  refine lv_bipush (v := 32) X.1 X.2.1 dX5_init_21 (by decide) ?_
  refine ze_nwI (N := 32) X hf kar_int (by decide) (by decide) (by decide) hW (by show _ ≤ (3 : Nat); (try dsimp only); omega) (by show _ ≤ (96 : Nat); (try dsimp only); omega) dX5_init_23 (fun n11 K12 I13 H hg hV => ?_)
  replace hf := hg
  replace hW := hV
  obtain ⟨k14, hg⟩ := zh_if hf
  replace hf := hg
  refine ze_putRF (ty := .array .int) (x := (some n6)) X hin 5 2 18 (RX5, TX5, 4) rfl (Or.inr ⟨_, rfl⟩) hf hW k14 rfl (by decide) kfl_X5_18 rfl rfl (by decide +kernel) dX5_init_25 (fun R15 H locs hg hV => ?_)
  replace hf := hg
  replace hW := hV
  refine lv_aload_n X.1 X.2.1 dX5_init_28 rfl (lv_at hl 0 rfl) ?_
  refine lv_iconst (v := 0) X.1 X.2.1 dX5_init_29 (by decide) ?_
  refine ze_putI X 5 3 21 (RX5, TX5, 4) rfl hf hW k14 rfl (by decide) kfl_X5_21 rfl (by decide +kernel) dX5_init_30 (fun I16 H locs hg hV => ?_)
  replace hf := hg
  replace hW := hV
  obtain ⟨rfl, rfl, rfl, rfl⟩ := zi4 hf
  exact ze_retV X hr hlk hW (by (try dsimp only); omega) (by (try dsimp only); omega) dX5_init_33
end

/-! LeastPatterns$Joiner.<init>()V -/
def f_X0_init (F : Nat) (n : Nat) (K : zK) (I : zI) (R : zR) (a0 : Nat)  : Option (Nat × zK × zI × zR) :=
  if (K a0).1 = 10 then
  zbd (some (zup I a0 0 (0 : Int32))) fun I2 =>
  zbd (some (zup I2 a0 1 (0 : Int32))) fun I3 =>
  zbd4 (some (n + 1, zset K n (15, 0), zclr I3 n 0, zclr R n none)) fun n4 K5 I6 R7 =>
  zbd4 (f_X5_init F n4 K5 I6 R7 n) fun n8 K9 I10 R11 =>
  if (K9 a0).1 = 10 then
  zbd (some (zup R11 a0 2 (some n))) fun R14 =>
  zbd4 (some (n8 + 1, zset K9 n8 (15, 0), zclr I10 n8 0, zclr R14 n8 none)) fun n15 K16 I17 R18 =>
  zbd4 (f_X5_init F n15 K16 I17 R18 n8) fun n19 K20 I21 R22 =>
  if (K20 a0).1 = 10 then
  zbd (some (zup R22 a0 3 (some n8))) fun R25 =>
  zbd4 (some (n19 + 1, zset K20 n19 (15, 0), zclr I21 n19 0, zclr R25 n19 none)) fun n26 K27 I28 R29 =>
  zbd4 (f_X5_init F n26 K27 I28 R29 n19) fun n30 K31 I32 R33 =>
  if (K31 a0).1 = 10 then
  zbd (some (zup R33 a0 4 (some n19))) fun R36 =>
  zbd (some (zup I32 a0 5 (0 : Int32))) fun I37 =>
  zbd3 (some (n30 + 1, zset K31 n30 (1, 10), zclr I37 n30 0)) fun n38 K39 I40 =>
  if (K39 a0).1 = 10 then
  zbd (some (zup R36 a0 6 (some n30))) fun R42 =>
  zbd3 (some (n38 + 1, zset K39 n38 (4, 10), zclr R42 n38 none)) fun n43 K44 R45 =>
  if (K44 a0).1 = 10 then
  zbd (some (zup R45 a0 7 (some n38))) fun R47 =>
  zbd3 (some (n43 + 1, zset K44 n43 (1, 10), zclr I40 n43 0)) fun n48 K49 I50 =>
  if (K49 a0).1 = 10 then
  zbd (some (zup R47 a0 8 (some n43))) fun R52 =>
  zbd3 (some (n48 + 1, zset K49 n48 (1, 10), zclr I50 n48 0)) fun n53 K54 I55 =>
  if (K54 a0).1 = 10 then
  zbd (some (zup R52 a0 9 (some n48))) fun R57 =>
  zbd3 (some (n53 + 1, zset K54 n53 (4, 10), zclr R57 n53 none)) fun n58 K59 R60 =>
  if (K59 a0).1 = 10 then
  zbd (some (zup R60 a0 10 (some n53))) fun R62 =>
  zbd3 (some (n58 + 1, zset K59 n58 (1, 10), zclr I55 n58 0)) fun n63 K64 I65 =>
  if (K64 a0).1 = 10 then
  zbd (some (zup R62 a0 11 (some n58))) fun R67 =>
  zbd3 (some (n63 + 1, zset K64 n63 (1, 10), zclr I65 n63 0)) fun n68 K69 I70 =>
  if (K69 a0).1 = 10 then
  zbd (some (zup R67 a0 12 (some n63))) fun R72 =>
  some (n68, K69, I70, R72)
  else none
  else none
  else none
  else none
  else none
  else none
  else none
  else none
  else none
  else none
  else none
section
variable {p : Program} {l : Launch} {e : Env} {s : State} {m : MethodId} {args : Array Value} {below : List Frame} {meth : Method} {c : Code} {D : zD} {B n n0 n' fd ld : Nat} {K K0 K' : zK} {I I' : zI} {R R' : zR} {H : Heap} {locs : List Loc} {ls : Array Slot} {r : Int32}
set_option maxRecDepth 100000 in
set_option maxHeartbeats 4000000 in
theorem c_X0_init (l : Launch) (D : zD) (B n : Nat) {F : Nat} {K : zK} {I : zI} {R : zR} {a0 : Nat}  {n' : Nat} {K' : zK} {I' : zI} {R' : zR} (hf : f_X0_init F n K I R a0  = some (n', K', I', R')) : zM l yX0_init cX0_init 1 (none) ({ frames := 2, cells := 19, slots := 370, locals := 60 } : Room) D B n K I R [.ref (B + a0)] (zQv D (zOwn B K (B + n)) B n' K' I' R') := by
  refine ze_entry (lv0 := [(0, .ref (B + a0))]) (by decide) (by simp [lg_sl, zcat, zcat_i, zcat_r, zcat_l]) (by simp [lv_args, zcat, zcat_i, zcat_r, zcat_l]) (fun p e s m below meth c X hr hlk hin hW ls hl => ?_)
  unfold f_X0_init at hf
  have b1 : (0 : Nat) ≤ 0 := Nat.le_refl _
  refine lv_aload_n X.1 X.2.1 dX0_init_0 rfl (lv_at hl 0 rfl) ?_
  refine ze_obj X hl.1 kml_X0_3 kobj1 kobj2 (by decide) (by decide) dX0_init_1 ?_
  refine lv_aload_n X.1 X.2.1 dX0_init_4 rfl (lv_at hl 0 rfl) ?_
  refine lv_iconst (v := 0) X.1 X.2.1 dX0_init_5 (by decide) ?_
  obtain ⟨k1, hg⟩ := zh_if hf
  replace hf := hg
  refine ze_putZ X 0 0 9 (RX0, TX0, 13) rfl (by decide) hf hW k1 rfl (by decide) kfl_X0_9 rfl (by decide +kernel) dX0_init_6 (fun I2 H locs hg hV => ?_)
  replace hf := hg
  replace hW := hV
  refine lv_aload_n X.1 X.2.1 dX0_init_9 rfl (lv_at hl 0 rfl) ?_
  refine lv_iconst (v := 0) X.1 X.2.1 dX0_init_10 (by decide) ?_
  refine ze_putZ X 0 1 15 (RX0, TX0, 13) rfl (by decide) hf hW k1 rfl (by decide) kfl_X0_15 rfl (by decide +kernel) dX0_init_11 (fun I3 H locs hg hV => ?_)
  replace hf := hg
  replace hW := hV
  refine lv_aload_n X.1 X.2.1 dX0_init_14 rfl (lv_at hl 0 rfl) ?_
  refine ze_nw X 5 18 (RX5, TX5, 4) hf rfl kcx_X0_18 kci_X5 kit_X5 hW (by show _ ≤ (19 : Nat); (try dsimp only); omega) (by show _ ≤ (370 : Nat); (try dsimp only); omega) dX0_init_15 (fun n4 K5 I6 R7 H hg hV => ?_)
  replace hf := hg
  replace hW := hV
  refine lv_dup X.1 X.2.1 dX0_init_18 rfl ?_
  obtain ⟨n8, K9, I10, R11, h12, hg⟩ := zh_bd4 hf
  replace hf := hg
  refine ze_aftV (ze_runIN (b := n) (As := []) (rest := [.ref (B + n), .ref (B + a0)]) X 20 (c_X5_init l D B n4 h12) vX5_init kml_X0_20 hW ⟨by decide, by decide⟩ rfl hl.1 rfl (Nat.le_of_ble_eq_true rfl) ⟨by show _ + 3 ≤ (19 : Nat); (try dsimp only); omega, by show _ + 96 ≤ (370 : Nat); (try dsimp only); omega⟩ dX0_init_19) hW (fun H locs hV => ?_)
  replace hW := hV
  obtain ⟨k13, hg⟩ := zh_if hf
  replace hf := hg
  refine ze_putR (ty := .object "LeastPatterns$Term") (x := (some n)) X 0 2 21 (RX0, TX0, 13) rfl (Or.inl ⟨_, rfl⟩) hf hW k13 rfl (by decide) kfl_X0_21 rfl (by decide +kernel) dX0_init_22 (fun R14 H locs hg hV => ?_)
  replace hf := hg
  replace hW := hV
  refine lv_aload_n X.1 X.2.1 dX0_init_25 rfl (lv_at hl 0 rfl) ?_
  refine ze_nw X 5 18 (RX5, TX5, 4) hf rfl kcx_X0_18 kci_X5 kit_X5 hW (by show _ ≤ (19 : Nat); (try dsimp only); omega) (by show _ ≤ (370 : Nat); (try dsimp only); omega) dX0_init_26 (fun n15 K16 I17 R18 H hg hV => ?_)
  replace hf := hg
  replace hW := hV
  refine lv_dup X.1 X.2.1 dX0_init_29 rfl ?_
  obtain ⟨n19, K20, I21, R22, h23, hg⟩ := zh_bd4 hf
  replace hf := hg
  refine ze_aftV (ze_runIN (b := n8) (As := []) (rest := [.ref (B + n8), .ref (B + a0)]) X 20 (c_X5_init l D B n15 h23) vX5_init kml_X0_20 hW ⟨by decide, by decide⟩ rfl hl.1 rfl (Nat.le_of_ble_eq_true rfl) ⟨by show _ + 3 ≤ (19 : Nat); (try dsimp only); omega, by show _ + 96 ≤ (370 : Nat); (try dsimp only); omega⟩ dX0_init_30) hW (fun H locs hV => ?_)
  replace hW := hV
  obtain ⟨k24, hg⟩ := zh_if hf
  replace hf := hg
  refine ze_putR (ty := .object "LeastPatterns$Term") (x := (some n8)) X 0 3 25 (RX0, TX0, 13) rfl (Or.inl ⟨_, rfl⟩) hf hW k24 rfl (by decide) kfl_X0_25 rfl (by decide +kernel) dX0_init_33 (fun R25 H locs hg hV => ?_)
  replace hf := hg
  replace hW := hV
  refine lv_aload_n X.1 X.2.1 dX0_init_36 rfl (lv_at hl 0 rfl) ?_
  refine ze_nw X 5 18 (RX5, TX5, 4) hf rfl kcx_X0_18 kci_X5 kit_X5 hW (by show _ ≤ (19 : Nat); (try dsimp only); omega) (by show _ ≤ (370 : Nat); (try dsimp only); omega) dX0_init_37 (fun n26 K27 I28 R29 H hg hV => ?_)
  replace hf := hg
  replace hW := hV
  refine lv_dup X.1 X.2.1 dX0_init_40 rfl ?_
  obtain ⟨n30, K31, I32, R33, h34, hg⟩ := zh_bd4 hf
  replace hf := hg
  refine ze_aftV (ze_runIN (b := n19) (As := []) (rest := [.ref (B + n19), .ref (B + a0)]) X 20 (c_X5_init l D B n26 h34) vX5_init kml_X0_20 hW ⟨by decide, by decide⟩ rfl hl.1 rfl (Nat.le_of_ble_eq_true rfl) ⟨by show _ + 3 ≤ (19 : Nat); (try dsimp only); omega, by show _ + 96 ≤ (370 : Nat); (try dsimp only); omega⟩ dX0_init_41) hW (fun H locs hV => ?_)
  replace hW := hV
  obtain ⟨k35, hg⟩ := zh_if hf
  replace hf := hg
  refine ze_putR (ty := .object "LeastPatterns$Term") (x := (some n19)) X 0 4 28 (RX0, TX0, 13) rfl (Or.inl ⟨_, rfl⟩) hf hW k35 rfl (by decide) kfl_X0_28 rfl (by decide +kernel) dX0_init_44 (fun R36 H locs hg hV => ?_)
  replace hf := hg
  replace hW := hV
  refine lv_aload_n X.1 X.2.1 dX0_init_47 rfl (lv_at hl 0 rfl) ?_
  refine lv_iconst (v := 0) X.1 X.2.1 dX0_init_48 (by decide) ?_
  refine ze_putI X 0 5 31 (RX0, TX0, 13) rfl hf hW k35 rfl (by decide) kfl_X0_31 rfl (by decide +kernel) dX0_init_49 (fun I37 H locs hg hV => ?_)
  replace hf := hg
  replace hW := hV
  refine lv_aload_n X.1 X.2.1 dX0_init_52 rfl (lv_at hl 0 rfl) ?_
  refine lv_bipush (v := 10) X.1 X.2.1 dX0_init_53 (by decide) ?_
  refine ze_nwI (N := 10) X hf kar_int (by decide) (by decide) (by decide) hW (by show _ ≤ (19 : Nat); (try dsimp only); omega) (by show _ ≤ (370 : Nat); (try dsimp only); omega) dX0_init_55 (fun n38 K39 I40 H hg hV => ?_)
  replace hf := hg
  replace hW := hV
  obtain ⟨k41, hg⟩ := zh_if hf
  replace hf := hg
  refine ze_putRF (ty := .array .int) (x := (some n30)) X hin 0 6 35 (RX0, TX0, 13) rfl (Or.inr ⟨_, rfl⟩) hf hW k41 rfl (by decide) kfl_X0_35 rfl rfl (by decide +kernel) dX0_init_57 (fun R42 H locs hg hV => ?_)
  replace hf := hg
  replace hW := hV
  refine lv_aload_n X.1 X.2.1 dX0_init_60 rfl (lv_at hl 0 rfl) ?_
  refine lv_bipush (v := 10) X.1 X.2.1 dX0_init_61 (by decide) ?_
  refine ze_nwR (N := 10) X 4 18 RX5 (by decide) hf kcx_X0_18 kov_X5 (by decide) (by decide) (by decide) hW (by show _ ≤ (19 : Nat); (try dsimp only); omega) (by show _ ≤ (370 : Nat); (try dsimp only); omega) dX0_init_63 (fun n43 K44 R45 H hg hV => ?_)
  replace hf := hg
  replace hW := hV
  obtain ⟨k46, hg⟩ := zh_if hf
  replace hf := hg
  refine ze_putRF (ty := .array (.object "LeastPatterns$Term")) (x := (some n38)) X hin 0 7 39 (RX0, TX0, 13) rfl (Or.inr ⟨_, rfl⟩) hf hW k46 rfl (by decide) kfl_X0_39 rfl rfl (by decide +kernel) dX0_init_66 (fun R47 H locs hg hV => ?_)
  replace hf := hg
  replace hW := hV
  refine lv_aload_n X.1 X.2.1 dX0_init_69 rfl (lv_at hl 0 rfl) ?_
  refine lv_bipush (v := 10) X.1 X.2.1 dX0_init_70 (by decide) ?_
  refine ze_nwI (N := 10) X hf kar_int (by decide) (by decide) (by decide) hW (by show _ ≤ (19 : Nat); (try dsimp only); omega) (by show _ ≤ (370 : Nat); (try dsimp only); omega) dX0_init_72 (fun n48 K49 I50 H hg hV => ?_)
  replace hf := hg
  replace hW := hV
  obtain ⟨k51, hg⟩ := zh_if hf
  replace hf := hg
  refine ze_putRF (ty := .array .int) (x := (some n43)) X hin 0 8 43 (RX0, TX0, 13) rfl (Or.inr ⟨_, rfl⟩) hf hW k51 rfl (by decide) kfl_X0_43 rfl rfl (by decide +kernel) dX0_init_74 (fun R52 H locs hg hV => ?_)
  replace hf := hg
  replace hW := hV
  refine lv_aload_n X.1 X.2.1 dX0_init_77 rfl (lv_at hl 0 rfl) ?_
  refine lv_bipush (v := 10) X.1 X.2.1 dX0_init_78 (by decide) ?_
  refine ze_nwI (N := 10) X hf kar_int (by decide) (by decide) (by decide) hW (by show _ ≤ (19 : Nat); (try dsimp only); omega) (by show _ ≤ (370 : Nat); (try dsimp only); omega) dX0_init_80 (fun n53 K54 I55 H hg hV => ?_)
  replace hf := hg
  replace hW := hV
  obtain ⟨k56, hg⟩ := zh_if hf
  replace hf := hg
  refine ze_putRF (ty := .array .int) (x := (some n48)) X hin 0 9 46 (RX0, TX0, 13) rfl (Or.inr ⟨_, rfl⟩) hf hW k56 rfl (by decide) kfl_X0_46 rfl rfl (by decide +kernel) dX0_init_82 (fun R57 H locs hg hV => ?_)
  replace hf := hg
  replace hW := hV
  refine lv_aload_n X.1 X.2.1 dX0_init_85 rfl (lv_at hl 0 rfl) ?_
  refine lv_bipush (v := 10) X.1 X.2.1 dX0_init_86 (by decide) ?_
  refine ze_nwR (N := 10) X 4 18 RX5 (by decide) hf kcx_X0_18 kov_X5 (by decide) (by decide) (by decide) hW (by show _ ≤ (19 : Nat); (try dsimp only); omega) (by show _ ≤ (370 : Nat); (try dsimp only); omega) dX0_init_88 (fun n58 K59 R60 H hg hV => ?_)
  replace hf := hg
  replace hW := hV
  obtain ⟨k61, hg⟩ := zh_if hf
  replace hf := hg
  refine ze_putRF (ty := .array (.object "LeastPatterns$Term")) (x := (some n53)) X hin 0 10 49 (RX0, TX0, 13) rfl (Or.inr ⟨_, rfl⟩) hf hW k61 rfl (by decide) kfl_X0_49 rfl rfl (by decide +kernel) dX0_init_91 (fun R62 H locs hg hV => ?_)
  replace hf := hg
  replace hW := hV
  refine lv_aload_n X.1 X.2.1 dX0_init_94 rfl (lv_at hl 0 rfl) ?_
  refine lv_bipush (v := 10) X.1 X.2.1 dX0_init_95 (by decide) ?_
  refine ze_nwI (N := 10) X hf kar_int (by decide) (by decide) (by decide) hW (by show _ ≤ (19 : Nat); (try dsimp only); omega) (by show _ ≤ (370 : Nat); (try dsimp only); omega) dX0_init_97 (fun n63 K64 I65 H hg hV => ?_)
  replace hf := hg
  replace hW := hV
  obtain ⟨k66, hg⟩ := zh_if hf
  replace hf := hg
  refine ze_putRF (ty := .array .int) (x := (some n58)) X hin 0 11 52 (RX0, TX0, 13) rfl (Or.inr ⟨_, rfl⟩) hf hW k66 rfl (by decide) kfl_X0_52 rfl rfl (by decide +kernel) dX0_init_99 (fun R67 H locs hg hV => ?_)
  replace hf := hg
  replace hW := hV
  refine lv_aload_n X.1 X.2.1 dX0_init_102 rfl (lv_at hl 0 rfl) ?_
  refine lv_bipush (v := 10) X.1 X.2.1 dX0_init_103 (by decide) ?_
  refine ze_nwI (N := 10) X hf kar_int (by decide) (by decide) (by decide) hW (by show _ ≤ (19 : Nat); (try dsimp only); omega) (by show _ ≤ (370 : Nat); (try dsimp only); omega) dX0_init_105 (fun n68 K69 I70 H hg hV => ?_)
  replace hf := hg
  replace hW := hV
  obtain ⟨k71, hg⟩ := zh_if hf
  replace hf := hg
  refine ze_putRF (ty := .array .int) (x := (some n63)) X hin 0 12 55 (RX0, TX0, 13) rfl (Or.inr ⟨_, rfl⟩) hf hW k71 rfl (by decide) kfl_X0_55 rfl rfl (by decide +kernel) dX0_init_107 (fun R72 H locs hg hV => ?_)
  replace hf := hg
  replace hW := hV
  obtain ⟨rfl, rfl, rfl, rfl⟩ := zi4 hf
  exact ze_retV X hr hlk hW (by (try dsimp only); omega) (by (try dsimp only); omega) dX0_init_110
end

/-! LeastPatterns$Matcher.<init>()V -/
def f_X1_init (F : Nat) (n : Nat) (K : zK) (I : zI) (R : zR) (a0 : Nat)  : Option (Nat × zK × zI × zR) :=
  zbd4 (some (n + 1, zset K n (15, 0), zclr I n 0, zclr R n none)) fun n1 K2 I3 R4 =>
  zbd4 (f_X5_init F n1 K2 I3 R4 n) fun n5 K6 I7 R8 =>
  if (K6 a0).1 = 11 then
  zbd (some (zup R8 a0 0 (some n))) fun R11 =>
  zbd4 (some (n5 + 1, zset K6 n5 (15, 0), zclr I7 n5 0, zclr R11 n5 none)) fun n12 K13 I14 R15 =>
  zbd4 (f_X5_init F n12 K13 I14 R15 n5) fun n16 K17 I18 R19 =>
  if (K17 a0).1 = 11 then
  zbd (some (zup R19 a0 1 (some n5))) fun R22 =>
  zbd3 (some (n16 + 1, zset K17 n16 (1, 32), zclr I18 n16 0)) fun n23 K24 I25 =>
  if (K24 a0).1 = 11 then
  zbd (some (zup R22 a0 2 (some n16))) fun R27 =>
  zbd3 (some (n23 + 1, zset K24 n23 (1, 32), zclr I25 n23 0)) fun n28 K29 I30 =>
  if (K29 a0).1 = 11 then
  zbd (some (zup R27 a0 3 (some n23))) fun R32 =>
  zbd3 (some (n28 + 1, zset K29 n28 (1, 10), zclr I30 n28 0)) fun n33 K34 I35 =>
  if (K34 a0).1 = 11 then
  zbd (some (zup R32 a0 4 (some n28))) fun R37 =>
  zbd3 (some (n33 + 1, zset K34 n33 (1, 10), zclr I35 n33 0)) fun n38 K39 I40 =>
  if (K39 a0).1 = 11 then
  zbd (some (zup R37 a0 5 (some n33))) fun R42 =>
  zbd3 (some (n38 + 1, zset K39 n38 (1, 10), zclr I40 n38 0)) fun n43 K44 I45 =>
  if (K44 a0).1 = 11 then
  zbd (some (zup R42 a0 6 (some n38))) fun R47 =>
  zbd3 (some (n43 + 1, zset K44 n43 (1, 10), zclr I45 n43 0)) fun n48 K49 I50 =>
  if (K49 a0).1 = 11 then
  zbd (some (zup R47 a0 7 (some n43))) fun R52 =>
  some (n48, K49, I50, R52)
  else none
  else none
  else none
  else none
  else none
  else none
  else none
  else none
section
variable {p : Program} {l : Launch} {e : Env} {s : State} {m : MethodId} {args : Array Value} {below : List Frame} {meth : Method} {c : Code} {D : zD} {B n n0 n' fd ld : Nat} {K K0 K' : zK} {I I' : zI} {R R' : zR} {H : Heap} {locs : List Loc} {ls : Array Slot} {r : Int32}
set_option maxRecDepth 100000 in
set_option maxHeartbeats 4000000 in
theorem c_X1_init (l : Launch) (D : zD) (B n : Nat) {F : Nat} {K : zK} {I : zI} {R : zR} {a0 : Nat}  {n' : Nat} {K' : zK} {I' : zI} {R' : zR} (hf : f_X1_init F n K I R a0  = some (n', K', I', R')) : zM l yX1_init cX1_init 1 (none) ({ frames := 2, cells := 14, slots := 304, locals := 60 } : Room) D B n K I R [.ref (B + a0)] (zQv D (zOwn B K (B + n)) B n' K' I' R') := by
  refine ze_entry (lv0 := [(0, .ref (B + a0))]) (by decide) (by simp [lg_sl, zcat, zcat_i, zcat_r, zcat_l]) (by simp [lv_args, zcat, zcat_i, zcat_r, zcat_l]) (fun p e s m below meth c X hr hlk hin hW ls hl => ?_)
  unfold f_X1_init at hf
  have b1 : (0 : Nat) ≤ 0 := Nat.le_refl _
  refine lv_aload_n X.1 X.2.1 dX1_init_0 rfl (lv_at hl 0 rfl) ?_
  refine ze_obj X hl.1 kml_X1_3 kobj1 kobj2 (by decide) (by decide) dX1_init_1 ?_
  refine lv_aload_n X.1 X.2.1 dX1_init_4 rfl (lv_at hl 0 rfl) ?_
  refine ze_nw X 5 9 (RX5, TX5, 4) hf rfl kcx_X1_9 kci_X5 kit_X5 hW (by show _ ≤ (14 : Nat); (try dsimp only); omega) (by show _ ≤ (304 : Nat); (try dsimp only); omega) dX1_init_5 (fun n1 K2 I3 R4 H hg hV => ?_)
  replace hf := hg
  replace hW := hV
  refine lv_dup X.1 X.2.1 dX1_init_8 rfl ?_
  obtain ⟨n5, K6, I7, R8, h9, hg⟩ := zh_bd4 hf
  replace hf := hg
  refine ze_aftV (ze_runIN (b := n) (As := []) (rest := [.ref (B + n), .ref (B + a0)]) X 11 (c_X5_init l D B n1 h9) vX5_init kml_X1_11 hW ⟨by decide, by decide⟩ rfl hl.1 rfl (Nat.le_of_ble_eq_true rfl) ⟨by show _ + 3 ≤ (14 : Nat); (try dsimp only); omega, by show _ + 96 ≤ (304 : Nat); (try dsimp only); omega⟩ dX1_init_9) hW (fun H locs hV => ?_)
  replace hW := hV
  obtain ⟨k10, hg⟩ := zh_if hf
  replace hf := hg
  refine ze_putR (ty := .object "LeastPatterns$Term") (x := (some n)) X 1 0 12 (RX1, TX1, 8) rfl (Or.inl ⟨_, rfl⟩) hf hW k10 rfl (by decide) kfl_X1_12 rfl (by decide +kernel) dX1_init_12 (fun R11 H locs hg hV => ?_)
  replace hf := hg
  replace hW := hV
  refine lv_aload_n X.1 X.2.1 dX1_init_15 rfl (lv_at hl 0 rfl) ?_
  refine ze_nw X 5 9 (RX5, TX5, 4) hf rfl kcx_X1_9 kci_X5 kit_X5 hW (by show _ ≤ (14 : Nat); (try dsimp only); omega) (by show _ ≤ (304 : Nat); (try dsimp only); omega) dX1_init_16 (fun n12 K13 I14 R15 H hg hV => ?_)
  replace hf := hg
  replace hW := hV
  refine lv_dup X.1 X.2.1 dX1_init_19 rfl ?_
  obtain ⟨n16, K17, I18, R19, h20, hg⟩ := zh_bd4 hf
  replace hf := hg
  refine ze_aftV (ze_runIN (b := n5) (As := []) (rest := [.ref (B + n5), .ref (B + a0)]) X 11 (c_X5_init l D B n12 h20) vX5_init kml_X1_11 hW ⟨by decide, by decide⟩ rfl hl.1 rfl (Nat.le_of_ble_eq_true rfl) ⟨by show _ + 3 ≤ (14 : Nat); (try dsimp only); omega, by show _ + 96 ≤ (304 : Nat); (try dsimp only); omega⟩ dX1_init_20) hW (fun H locs hV => ?_)
  replace hW := hV
  obtain ⟨k21, hg⟩ := zh_if hf
  replace hf := hg
  refine ze_putR (ty := .object "LeastPatterns$Term") (x := (some n5)) X 1 1 18 (RX1, TX1, 8) rfl (Or.inl ⟨_, rfl⟩) hf hW k21 rfl (by decide) kfl_X1_18 rfl (by decide +kernel) dX1_init_23 (fun R22 H locs hg hV => ?_)
  replace hf := hg
  replace hW := hV
  refine lv_aload_n X.1 X.2.1 dX1_init_26 rfl (lv_at hl 0 rfl) ?_
  refine lv_bipush (v := 32) X.1 X.2.1 dX1_init_27 (by decide) ?_
  refine ze_nwI (N := 32) X hf kar_int (by decide) (by decide) (by decide) hW (by show _ ≤ (14 : Nat); (try dsimp only); omega) (by show _ ≤ (304 : Nat); (try dsimp only); omega) dX1_init_29 (fun n23 K24 I25 H hg hV => ?_)
  replace hf := hg
  replace hW := hV
  obtain ⟨k26, hg⟩ := zh_if hf
  replace hf := hg
  refine ze_putRF (ty := .array .int) (x := (some n16)) X hin 1 2 21 (RX1, TX1, 8) rfl (Or.inr ⟨_, rfl⟩) hf hW k26 rfl (by decide) kfl_X1_21 rfl rfl (by decide +kernel) dX1_init_31 (fun R27 H locs hg hV => ?_)
  replace hf := hg
  replace hW := hV
  refine lv_aload_n X.1 X.2.1 dX1_init_34 rfl (lv_at hl 0 rfl) ?_
  refine lv_bipush (v := 32) X.1 X.2.1 dX1_init_35 (by decide) ?_
  refine ze_nwI (N := 32) X hf kar_int (by decide) (by decide) (by decide) hW (by show _ ≤ (14 : Nat); (try dsimp only); omega) (by show _ ≤ (304 : Nat); (try dsimp only); omega) dX1_init_37 (fun n28 K29 I30 H hg hV => ?_)
  replace hf := hg
  replace hW := hV
  obtain ⟨k31, hg⟩ := zh_if hf
  replace hf := hg
  refine ze_putRF (ty := .array .int) (x := (some n23)) X hin 1 3 25 (RX1, TX1, 8) rfl (Or.inr ⟨_, rfl⟩) hf hW k31 rfl (by decide) kfl_X1_25 rfl rfl (by decide +kernel) dX1_init_39 (fun R32 H locs hg hV => ?_)
  replace hf := hg
  replace hW := hV
  refine lv_aload_n X.1 X.2.1 dX1_init_42 rfl (lv_at hl 0 rfl) ?_
  refine lv_bipush (v := 10) X.1 X.2.1 dX1_init_43 (by decide) ?_
  refine ze_nwI (N := 10) X hf kar_int (by decide) (by decide) (by decide) hW (by show _ ≤ (14 : Nat); (try dsimp only); omega) (by show _ ≤ (304 : Nat); (try dsimp only); omega) dX1_init_45 (fun n33 K34 I35 H hg hV => ?_)
  replace hf := hg
  replace hW := hV
  obtain ⟨k36, hg⟩ := zh_if hf
  replace hf := hg
  refine ze_putRF (ty := .array .int) (x := (some n28)) X hin 1 4 28 (RX1, TX1, 8) rfl (Or.inr ⟨_, rfl⟩) hf hW k36 rfl (by decide) kfl_X1_28 rfl rfl (by decide +kernel) dX1_init_47 (fun R37 H locs hg hV => ?_)
  replace hf := hg
  replace hW := hV
  refine lv_aload_n X.1 X.2.1 dX1_init_50 rfl (lv_at hl 0 rfl) ?_
  refine lv_bipush (v := 10) X.1 X.2.1 dX1_init_51 (by decide) ?_
  refine ze_nwI (N := 10) X hf kar_int (by decide) (by decide) (by decide) hW (by show _ ≤ (14 : Nat); (try dsimp only); omega) (by show _ ≤ (304 : Nat); (try dsimp only); omega) dX1_init_53 (fun n38 K39 I40 H hg hV => ?_)
  replace hf := hg
  replace hW := hV
  obtain ⟨k41, hg⟩ := zh_if hf
  replace hf := hg
  refine ze_putRF (ty := .array .int) (x := (some n33)) X hin 1 5 31 (RX1, TX1, 8) rfl (Or.inr ⟨_, rfl⟩) hf hW k41 rfl (by decide) kfl_X1_31 rfl rfl (by decide +kernel) dX1_init_55 (fun R42 H locs hg hV => ?_)
  replace hf := hg
  replace hW := hV
  refine lv_aload_n X.1 X.2.1 dX1_init_58 rfl (lv_at hl 0 rfl) ?_
  refine lv_bipush (v := 10) X.1 X.2.1 dX1_init_59 (by decide) ?_
  refine ze_nwI (N := 10) X hf kar_int (by decide) (by decide) (by decide) hW (by show _ ≤ (14 : Nat); (try dsimp only); omega) (by show _ ≤ (304 : Nat); (try dsimp only); omega) dX1_init_61 (fun n43 K44 I45 H hg hV => ?_)
  replace hf := hg
  replace hW := hV
  obtain ⟨k46, hg⟩ := zh_if hf
  replace hf := hg
  refine ze_putRF (ty := .array .int) (x := (some n38)) X hin 1 6 34 (RX1, TX1, 8) rfl (Or.inr ⟨_, rfl⟩) hf hW k46 rfl (by decide) kfl_X1_34 rfl rfl (by decide +kernel) dX1_init_63 (fun R47 H locs hg hV => ?_)
  replace hf := hg
  replace hW := hV
  refine lv_aload_n X.1 X.2.1 dX1_init_66 rfl (lv_at hl 0 rfl) ?_
  refine lv_bipush (v := 10) X.1 X.2.1 dX1_init_67 (by decide) ?_
  refine ze_nwI (N := 10) X hf kar_int (by decide) (by decide) (by decide) hW (by show _ ≤ (14 : Nat); (try dsimp only); omega) (by show _ ≤ (304 : Nat); (try dsimp only); omega) dX1_init_69 (fun n48 K49 I50 H hg hV => ?_)
  replace hf := hg
  replace hW := hV
  obtain ⟨k51, hg⟩ := zh_if hf
  replace hf := hg
  refine ze_putRF (ty := .array .int) (x := (some n43)) X hin 1 7 37 (RX1, TX1, 8) rfl (Or.inr ⟨_, rfl⟩) hf hW k51 rfl (by decide) kfl_X1_37 rfl rfl (by decide +kernel) dX1_init_71 (fun R52 H locs hg hV => ?_)
  replace hf := hg
  replace hW := hV
  obtain ⟨rfl, rfl, rfl, rfl⟩ := zi4 hf
  exact ze_retV X hr hlk hW (by (try dsimp only); omega) (by (try dsimp only); omega) dX1_init_74
end

/-! LeastPatterns$Reader.<init>()V -/
def f_X2_init (F : Nat) (n : Nat) (K : zK) (I : zI) (R : zR) (a0 : Nat)  : Option (Nat × zK × zI × zR) :=
  zbd3 (some (n + 1, zset K n (1, 0), zclr I n 0)) fun n1 K2 I3 =>
  if (K2 a0).1 = 12 then
  zbd (some (zup R a0 0 (some n))) fun R5 =>
  zbd (some (zup I3 a0 1 (0 : Int32))) fun I6 =>
  zbd (some (zup I6 a0 2 (0 : Int32))) fun I7 =>
  zbd (some (zup I7 a0 3 (-9 : Int32))) fun I8 =>
  zbd4 (some (n1 + 1, zset K2 n1 (15, 0), zclr I8 n1 0, zclr R5 n1 none)) fun n9 K10 I11 R12 =>
  zbd4 (f_X5_init F n9 K10 I11 R12 n1) fun n13 K14 I15 R16 =>
  if (K14 a0).1 = 12 then
  zbd (some (zup R16 a0 4 (some n1))) fun R19 =>
  zbd (some (zup I15 a0 5 (0 : Int32))) fun I20 =>
  zbd3 (some (n13 + 1, zset K14 n13 (1, 8), zclr I20 n13 0)) fun n21 K22 I23 =>
  if (K22 a0).1 = 12 then
  zbd (some (zup R19 a0 6 (some n13))) fun R25 =>
  zbd3 (some (n21 + 1, zset K22 n21 (2, 8), zclr I23 n21 0)) fun n26 K27 I28 =>
  if (K27 a0).1 = 12 then
  zbd (some (zup R25 a0 7 (some n21))) fun R30 =>
  zbd3 (some (n26 + 1, zset K27 n26 (1, 10), zclr I28 n26 0)) fun n31 K32 I33 =>
  if (K32 a0).1 = 12 then
  zbd (some (zup R30 a0 8 (some n26))) fun R35 =>
  some (n31, K32, I33, R35)
  else none
  else none
  else none
  else none
  else none
section
variable {p : Program} {l : Launch} {e : Env} {s : State} {m : MethodId} {args : Array Value} {below : List Frame} {meth : Method} {c : Code} {D : zD} {B n n0 n' fd ld : Nat} {K K0 K' : zK} {I I' : zI} {R R' : zR} {H : Heap} {locs : List Loc} {ls : Array Slot} {r : Int32}
set_option maxRecDepth 100000 in
set_option maxHeartbeats 4000000 in
theorem c_X2_init (l : Launch) (D : zD) (B n : Nat) {F : Nat} {K : zK} {I : zI} {R : zR} {a0 : Nat}  {n' : Nat} {K' : zK} {I' : zI} {R' : zR} (hf : f_X2_init F n K I R a0  = some (n', K', I', R')) : zM l yX2_init cX2_init 1 (none) ({ frames := 2, cells := 8, slots := 126, locals := 60 } : Room) D B n K I R [.ref (B + a0)] (zQv D (zOwn B K (B + n)) B n' K' I' R') := by
  refine ze_entry (lv0 := [(0, .ref (B + a0))]) (by decide) (by simp [lg_sl, zcat, zcat_i, zcat_r, zcat_l]) (by simp [lv_args, zcat, zcat_i, zcat_r, zcat_l]) (fun p e s m below meth c X hr hlk hin hW ls hl => ?_)
  unfold f_X2_init at hf
  have b1 : (0 : Nat) ≤ 0 := Nat.le_refl _
  refine lv_aload_n X.1 X.2.1 dX2_init_0 rfl (lv_at hl 0 rfl) ?_
  refine ze_obj X hl.1 kml_X2_3 kobj1 kobj2 (by decide) (by decide) dX2_init_1 ?_
  refine lv_aload_n X.1 X.2.1 dX2_init_4 rfl (lv_at hl 0 rfl) ?_
  refine lv_iconst (v := 0) X.1 X.2.1 dX2_init_5 (by decide) ?_
  refine ze_nwI (N := 0) X hf kar_int (by decide) (by decide) (by decide) hW (by show _ ≤ (8 : Nat); (try dsimp only); omega) (by show _ ≤ (126 : Nat); (try dsimp only); omega) dX2_init_6 (fun n1 K2 I3 H hg hV => ?_)
  replace hf := hg
  replace hW := hV
  obtain ⟨k4, hg⟩ := zh_if hf
  replace hf := hg
  refine ze_putR (ty := .array .int) (x := (some n)) X 2 0 9 (RX2, TX2, 9) rfl (Or.inr ⟨_, rfl⟩) hf hW k4 rfl (by decide) kfl_X2_9 rfl (by decide +kernel) dX2_init_8 (fun R5 H locs hg hV => ?_)
  replace hf := hg
  replace hW := hV
  refine lv_aload_n X.1 X.2.1 dX2_init_11 rfl (lv_at hl 0 rfl) ?_
  refine lv_iconst (v := 0) X.1 X.2.1 dX2_init_12 (by decide) ?_
  refine ze_putI X 2 1 15 (RX2, TX2, 9) rfl hf hW k4 rfl (by decide) kfl_X2_15 rfl (by decide +kernel) dX2_init_13 (fun I6 H locs hg hV => ?_)
  replace hf := hg
  replace hW := hV
  refine lv_aload_n X.1 X.2.1 dX2_init_16 rfl (lv_at hl 0 rfl) ?_
  refine lv_iconst (v := 0) X.1 X.2.1 dX2_init_17 (by decide) ?_
  refine ze_putI X 2 2 19 (RX2, TX2, 9) rfl hf hW k4 rfl (by decide) kfl_X2_19 rfl (by decide +kernel) dX2_init_18 (fun I7 H locs hg hV => ?_)
  replace hf := hg
  replace hW := hV
  refine lv_aload_n X.1 X.2.1 dX2_init_21 rfl (lv_at hl 0 rfl) ?_
  refine lv_bipush (v := -9) X.1 X.2.1 dX2_init_22 (by decide) ?_
  refine ze_putI X 2 3 22 (RX2, TX2, 9) rfl hf hW k4 rfl (by decide) kfl_X2_22 rfl (by decide +kernel) dX2_init_24 (fun I8 H locs hg hV => ?_)
  replace hf := hg
  replace hW := hV
  refine lv_aload_n X.1 X.2.1 dX2_init_27 rfl (lv_at hl 0 rfl) ?_
  refine ze_nw X 5 25 (RX5, TX5, 4) hf rfl kcx_X2_25 kci_X5 kit_X5 hW (by show _ ≤ (8 : Nat); (try dsimp only); omega) (by show _ ≤ (126 : Nat); (try dsimp only); omega) dX2_init_28 (fun n9 K10 I11 R12 H hg hV => ?_)
  replace hf := hg
  replace hW := hV
  refine lv_dup X.1 X.2.1 dX2_init_31 rfl ?_
  obtain ⟨n13, K14, I15, R16, h17, hg⟩ := zh_bd4 hf
  replace hf := hg
  refine ze_aftV (ze_runIN (b := n1) (As := []) (rest := [.ref (B + n1), .ref (B + a0)]) X 27 (c_X5_init l D B n9 h17) vX5_init kml_X2_27 hW ⟨by decide, by decide⟩ rfl hl.1 rfl (Nat.le_of_ble_eq_true rfl) ⟨by show _ + 3 ≤ (8 : Nat); (try dsimp only); omega, by show _ + 96 ≤ (126 : Nat); (try dsimp only); omega⟩ dX2_init_32) hW (fun H locs hV => ?_)
  replace hW := hV
  obtain ⟨k18, hg⟩ := zh_if hf
  replace hf := hg
  refine ze_putR (ty := .object "LeastPatterns$Term") (x := (some n1)) X 2 4 28 (RX2, TX2, 9) rfl (Or.inl ⟨_, rfl⟩) hf hW k18 rfl (by decide) kfl_X2_28 rfl (by decide +kernel) dX2_init_35 (fun R19 H locs hg hV => ?_)
  replace hf := hg
  replace hW := hV
  refine lv_aload_n X.1 X.2.1 dX2_init_38 rfl (lv_at hl 0 rfl) ?_
  refine lv_iconst (v := 0) X.1 X.2.1 dX2_init_39 (by decide) ?_
  refine ze_putI X 2 5 32 (RX2, TX2, 9) rfl hf hW k18 rfl (by decide) kfl_X2_32 rfl (by decide +kernel) dX2_init_40 (fun I20 H locs hg hV => ?_)
  replace hf := hg
  replace hW := hV
  refine lv_aload_n X.1 X.2.1 dX2_init_43 rfl (lv_at hl 0 rfl) ?_
  refine lv_bipush (v := 8) X.1 X.2.1 dX2_init_44 (by decide) ?_
  refine ze_nwI (N := 8) X hf kar_int (by decide) (by decide) (by decide) hW (by show _ ≤ (8 : Nat); (try dsimp only); omega) (by show _ ≤ (126 : Nat); (try dsimp only); omega) dX2_init_46 (fun n21 K22 I23 H hg hV => ?_)
  replace hf := hg
  replace hW := hV
  obtain ⟨k24, hg⟩ := zh_if hf
  replace hf := hg
  refine ze_putRF (ty := .array .int) (x := (some n13)) X hin 2 6 35 (RX2, TX2, 9) rfl (Or.inr ⟨_, rfl⟩) hf hW k24 rfl (by decide) kfl_X2_35 rfl rfl (by decide +kernel) dX2_init_48 (fun R25 H locs hg hV => ?_)
  replace hf := hg
  replace hW := hV
  refine lv_aload_n X.1 X.2.1 dX2_init_51 rfl (lv_at hl 0 rfl) ?_
  refine lv_bipush (v := 8) X.1 X.2.1 dX2_init_52 (by decide) ?_
  refine ze_nwZ (N := 8) X hf kar_boolean (by decide) (by decide) (by decide) hW (by show _ ≤ (8 : Nat); (try dsimp only); omega) (by show _ ≤ (126 : Nat); (try dsimp only); omega) dX2_init_54 (fun n26 K27 I28 H hg hV => ?_)
  replace hf := hg
  replace hW := hV
  obtain ⟨k29, hg⟩ := zh_if hf
  replace hf := hg
  refine ze_putRF (ty := .array .boolean) (x := (some n21)) X hin 2 7 38 (RX2, TX2, 9) rfl (Or.inr ⟨_, rfl⟩) hf hW k29 rfl (by decide) kfl_X2_38 rfl rfl (by decide +kernel) dX2_init_56 (fun R30 H locs hg hV => ?_)
  replace hf := hg
  replace hW := hV
  refine lv_aload_n X.1 X.2.1 dX2_init_59 rfl (lv_at hl 0 rfl) ?_
  refine lv_bipush (v := 10) X.1 X.2.1 dX2_init_60 (by decide) ?_
  refine ze_nwI (N := 10) X hf kar_int (by decide) (by decide) (by decide) hW (by show _ ≤ (8 : Nat); (try dsimp only); omega) (by show _ ≤ (126 : Nat); (try dsimp only); omega) dX2_init_62 (fun n31 K32 I33 H hg hV => ?_)
  replace hf := hg
  replace hW := hV
  obtain ⟨k34, hg⟩ := zh_if hf
  replace hf := hg
  refine ze_putRF (ty := .array .int) (x := (some n26)) X hin 2 8 42 (RX2, TX2, 9) rfl (Or.inr ⟨_, rfl⟩) hf hW k34 rfl (by decide) kfl_X2_42 rfl rfl (by decide +kernel) dX2_init_64 (fun R35 H locs hg hV => ?_)
  replace hf := hg
  replace hW := hV
  obtain ⟨rfl, rfl, rfl, rfl⟩ := zi4 hf
  exact ze_retV X hr hlk hW (by (try dsimp only); omega) (by (try dsimp only); omega) dX2_init_67
end

/-! LeastPatterns$Shaper.<init>()V -/
def f_X3_init (F : Nat) (n : Nat) (K : zK) (I : zI) (R : zR) (a0 : Nat)  : Option (Nat × zK × zI × zR) :=
  zbd3 (some (n + 1, zset K n (2, 32), zclr I n 0)) fun n1 K2 I3 =>
  if (K2 a0).1 = 13 then
  zbd (some (zup R a0 0 (some n))) fun R5 =>
  zbd3 (some (n1 + 1, zset K2 n1 (1, 32), zclr I3 n1 0)) fun n6 K7 I8 =>
  if (K7 a0).1 = 13 then
  zbd (some (zup R5 a0 1 (some n1))) fun R10 =>
  zbd3 (some (n6 + 1, zset K7 n6 (1, 32), zclr I8 n6 0)) fun n11 K12 I13 =>
  if (K12 a0).1 = 13 then
  zbd (some (zup R10 a0 2 (some n6))) fun R15 =>
  zbd3 (some (n11 + 1, zset K12 n11 (1, 8), zclr I13 n11 0)) fun n16 K17 I18 =>
  if (K17 a0).1 = 13 then
  zbd (some (zup R15 a0 3 (some n11))) fun R20 =>
  zbd3 (some (n16 + 1, zset K17 n16 (1, 32), zclr I18 n16 0)) fun n21 K22 I23 =>
  if (K22 a0).1 = 13 then
  zbd (some (zup R20 a0 4 (some n16))) fun R25 =>
  some (n21, K22, I23, R25)
  else none
  else none
  else none
  else none
  else none
section
variable {p : Program} {l : Launch} {e : Env} {s : State} {m : MethodId} {args : Array Value} {below : List Frame} {meth : Method} {c : Code} {D : zD} {B n n0 n' fd ld : Nat} {K K0 K' : zK} {I I' : zI} {R R' : zR} {H : Heap} {locs : List Loc} {ls : Array Slot} {r : Int32}
set_option maxRecDepth 100000 in
set_option maxHeartbeats 4000000 in
theorem c_X3_init (l : Launch) (D : zD) (B n : Nat) {F : Nat} {K : zK} {I : zI} {R : zR} {a0 : Nat}  {n' : Nat} {K' : zK} {I' : zI} {R' : zR} (hf : f_X3_init F n K I R a0  = some (n', K', I', R')) : zM l yX3_init cX3_init 1 (none) ({ frames := 1, cells := 5, slots := 136, locals := 40 } : Room) D B n K I R [.ref (B + a0)] (zQv D (zOwn B K (B + n)) B n' K' I' R') := by
  refine ze_entry (lv0 := [(0, .ref (B + a0))]) (by decide) (by simp [lg_sl, zcat, zcat_i, zcat_r, zcat_l]) (by simp [lv_args, zcat, zcat_i, zcat_r, zcat_l]) (fun p e s m below meth c X hr hlk hin hW ls hl => ?_)
  unfold f_X3_init at hf
  have b1 : (0 : Nat) ≤ 0 := Nat.le_refl _
  refine lv_aload_n X.1 X.2.1 dX3_init_0 rfl (lv_at hl 0 rfl) ?_
  refine ze_obj X hl.1 kml_X3_3 kobj1 kobj2 (by decide) (by decide) dX3_init_1 ?_
  refine lv_aload_n X.1 X.2.1 dX3_init_4 rfl (lv_at hl 0 rfl) ?_
  refine lv_bipush (v := 32) X.1 X.2.1 dX3_init_5 (by decide) ?_
  refine ze_nwZ (N := 32) X hf kar_boolean (by decide) (by decide) (by decide) hW (by show _ ≤ (5 : Nat); (try dsimp only); omega) (by show _ ≤ (136 : Nat); (try dsimp only); omega) dX3_init_7 (fun n1 K2 I3 H hg hV => ?_)
  replace hf := hg
  replace hW := hV
  obtain ⟨k4, hg⟩ := zh_if hf
  replace hf := hg
  refine ze_putRF (ty := .array .boolean) (x := (some n)) X hin 3 0 9 (RX3, TX3, 5) rfl (Or.inr ⟨_, rfl⟩) hf hW k4 rfl (by decide) kfl_X3_9 rfl rfl (by decide +kernel) dX3_init_9 (fun R5 H locs hg hV => ?_)
  replace hf := hg
  replace hW := hV
  refine lv_aload_n X.1 X.2.1 dX3_init_12 rfl (lv_at hl 0 rfl) ?_
  refine lv_bipush (v := 32) X.1 X.2.1 dX3_init_13 (by decide) ?_
  refine ze_nwI (N := 32) X hf kar_int (by decide) (by decide) (by decide) hW (by show _ ≤ (5 : Nat); (try dsimp only); omega) (by show _ ≤ (136 : Nat); (try dsimp only); omega) dX3_init_15 (fun n6 K7 I8 H hg hV => ?_)
  replace hf := hg
  replace hW := hV
  obtain ⟨k9, hg⟩ := zh_if hf
  replace hf := hg
  refine ze_putRF (ty := .array .int) (x := (some n1)) X hin 3 1 15 (RX3, TX3, 5) rfl (Or.inr ⟨_, rfl⟩) hf hW k9 rfl (by decide) kfl_X3_15 rfl rfl (by decide +kernel) dX3_init_17 (fun R10 H locs hg hV => ?_)
  replace hf := hg
  replace hW := hV
  refine lv_aload_n X.1 X.2.1 dX3_init_20 rfl (lv_at hl 0 rfl) ?_
  refine lv_bipush (v := 32) X.1 X.2.1 dX3_init_21 (by decide) ?_
  refine ze_nwI (N := 32) X hf kar_int (by decide) (by decide) (by decide) hW (by show _ ≤ (5 : Nat); (try dsimp only); omega) (by show _ ≤ (136 : Nat); (try dsimp only); omega) dX3_init_23 (fun n11 K12 I13 H hg hV => ?_)
  replace hf := hg
  replace hW := hV
  obtain ⟨k14, hg⟩ := zh_if hf
  replace hf := hg
  refine ze_putRF (ty := .array .int) (x := (some n6)) X hin 3 2 19 (RX3, TX3, 5) rfl (Or.inr ⟨_, rfl⟩) hf hW k14 rfl (by decide) kfl_X3_19 rfl rfl (by decide +kernel) dX3_init_25 (fun R15 H locs hg hV => ?_)
  replace hf := hg
  replace hW := hV
  refine lv_aload_n X.1 X.2.1 dX3_init_28 rfl (lv_at hl 0 rfl) ?_
  refine lv_bipush (v := 8) X.1 X.2.1 dX3_init_29 (by decide) ?_
  refine ze_nwI (N := 8) X hf kar_int (by decide) (by decide) (by decide) hW (by show _ ≤ (5 : Nat); (try dsimp only); omega) (by show _ ≤ (136 : Nat); (try dsimp only); omega) dX3_init_31 (fun n16 K17 I18 H hg hV => ?_)
  replace hf := hg
  replace hW := hV
  obtain ⟨k19, hg⟩ := zh_if hf
  replace hf := hg
  refine ze_putRF (ty := .array .int) (x := (some n11)) X hin 3 3 22 (RX3, TX3, 5) rfl (Or.inr ⟨_, rfl⟩) hf hW k19 rfl (by decide) kfl_X3_22 rfl rfl (by decide +kernel) dX3_init_33 (fun R20 H locs hg hV => ?_)
  replace hf := hg
  replace hW := hV
  refine lv_aload_n X.1 X.2.1 dX3_init_36 rfl (lv_at hl 0 rfl) ?_
  refine lv_bipush (v := 32) X.1 X.2.1 dX3_init_37 (by decide) ?_
  refine ze_nwI (N := 32) X hf kar_int (by decide) (by decide) (by decide) hW (by show _ ≤ (5 : Nat); (try dsimp only); omega) (by show _ ≤ (136 : Nat); (try dsimp only); omega) dX3_init_39 (fun n21 K22 I23 H hg hV => ?_)
  replace hf := hg
  replace hW := hV
  obtain ⟨k24, hg⟩ := zh_if hf
  replace hf := hg
  refine ze_putRF (ty := .array .int) (x := (some n16)) X hin 3 4 25 (RX3, TX3, 5) rfl (Or.inr ⟨_, rfl⟩) hf hW k24 rfl (by decide) kfl_X3_25 rfl rfl (by decide +kernel) dX3_init_41 (fun R25 H locs hg hV => ?_)
  replace hf := hg
  replace hW := hV
  obtain ⟨rfl, rfl, rfl, rfl⟩ := zi4 hf
  exact ze_retV X hr hlk hW (by (try dsimp only); omega) (by (try dsimp only); omega) dX3_init_44
end

/-! LeastPatterns$State.<init>()V -/
def f_X4_init (F : Nat) (n : Nat) (K : zK) (I : zI) (R : zR) (a0 : Nat)  : Option (Nat × zK × zI × zR) :=
  zbd3 (some (n + 1, zset K n (4, 8), zclr R n none)) fun n1 K2 R3 =>
  if (K2 a0).1 = 14 then
  zbd (some (zup R3 a0 0 (some n))) fun R5 =>
  zbd3 (some (n1 + 1, zset K2 n1 (1, 4), zclr I n1 0)) fun n6 K7 I8 =>
  if (K7 a0).1 = 14 then
  zbd (some (zup R5 a0 1 (some n1))) fun R10 =>
  some (n6, K7, I8, R10)
  else none
  else none
section
variable {p : Program} {l : Launch} {e : Env} {s : State} {m : MethodId} {args : Array Value} {below : List Frame} {meth : Method} {c : Code} {D : zD} {B n n0 n' fd ld : Nat} {K K0 K' : zK} {I I' : zI} {R R' : zR} {H : Heap} {locs : List Loc} {ls : Array Slot} {r : Int32}
set_option maxRecDepth 100000 in
set_option maxHeartbeats 4000000 in
theorem c_X4_init (l : Launch) (D : zD) (B n : Nat) {F : Nat} {K : zK} {I : zI} {R : zR} {a0 : Nat}  {n' : Nat} {K' : zK} {I' : zI} {R' : zR} (hf : f_X4_init F n K I R a0  = some (n', K', I', R')) : zM l yX4_init cX4_init 1 (none) ({ frames := 1, cells := 2, slots := 12, locals := 40 } : Room) D B n K I R [.ref (B + a0)] (zQv D (zOwn B K (B + n)) B n' K' I' R') := by
  refine ze_entry (lv0 := [(0, .ref (B + a0))]) (by decide) (by simp [lg_sl, zcat, zcat_i, zcat_r, zcat_l]) (by simp [lv_args, zcat, zcat_i, zcat_r, zcat_l]) (fun p e s m below meth c X hr hlk hin hW ls hl => ?_)
  unfold f_X4_init at hf
  have b1 : (0 : Nat) ≤ 0 := Nat.le_refl _
  refine lv_aload_n X.1 X.2.1 dX4_init_0 rfl (lv_at hl 0 rfl) ?_
  refine ze_obj X hl.1 kml_X4_3 kobj1 kobj2 (by decide) (by decide) dX4_init_1 ?_
  refine lv_aload_n X.1 X.2.1 dX4_init_4 rfl (lv_at hl 0 rfl) ?_
  refine lv_bipush (v := 8) X.1 X.2.1 dX4_init_5 (by decide) ?_
  refine ze_nwR (N := 8) X 4 9 RX5 (by decide) hf kcx_X4_9 kov_X5 (by decide) (by decide) (by decide) hW (by show _ ≤ (2 : Nat); (try dsimp only); omega) (by show _ ≤ (12 : Nat); (try dsimp only); omega) dX4_init_7 (fun n1 K2 R3 H hg hV => ?_)
  replace hf := hg
  replace hW := hV
  obtain ⟨k4, hg⟩ := zh_if hf
  replace hf := hg
  refine ze_putRF (ty := .array (.object "LeastPatterns$Term")) (x := (some n)) X hin 4 0 11 (RX4, TX4, 2) rfl (Or.inr ⟨_, rfl⟩) hf hW k4 rfl (by decide) kfl_X4_11 rfl rfl (by decide +kernel) dX4_init_10 (fun R5 H locs hg hV => ?_)
  replace hf := hg
  replace hW := hV
  refine lv_aload_n X.1 X.2.1 dX4_init_13 rfl (lv_at hl 0 rfl) ?_
  refine lv_iconst (v := 4) X.1 X.2.1 dX4_init_14 (by decide) ?_
  refine ze_nwI (N := 4) X hf kar_int (by decide) (by decide) (by decide) hW (by show _ ≤ (2 : Nat); (try dsimp only); omega) (by show _ ≤ (12 : Nat); (try dsimp only); omega) dX4_init_15 (fun n6 K7 I8 H hg hV => ?_)
  replace hf := hg
  replace hW := hV
  obtain ⟨k9, hg⟩ := zh_if hf
  replace hf := hg
  refine ze_putRF (ty := .array .int) (x := (some n1)) X hin 4 1 17 (RX4, TX4, 2) rfl (Or.inr ⟨_, rfl⟩) hf hW k9 rfl (by decide) kfl_X4_17 rfl rfl (by decide +kernel) dX4_init_17 (fun R10 H locs hg hV => ?_)
  replace hf := hg
  replace hW := hV
  obtain ⟨rfl, rfl, rfl, rfl⟩ := zi4 hf
  exact ze_retV X hr hlk hW (by (try dsimp only); omega) (by (try dsimp only); omega) dX4_init_20
end

/-! LeastPatterns.<init>()V -/
def g_X6_init_105 (F : Nat) (a0 : Nat)  (kself : Nat → Nat → zK → zI → zR → Int32 → Option (Nat × zK × zI × zR)) (z : Nat) (n : Nat) (K : zK) (I : zI) (R : zR) (x1 : Int32) : Option (Nat × zK × zI × zR) :=
  match z with
  | 0 => none
  | z + 1 =>
    if (K a0).1 = 16 then
    zbd (some (R a0 4)) fun o2 =>
    zbd (zdr K o2 3) fun a3 =>
    if (zln K a3) ≤ x1 then
      some (n, K, I, R)
    else
      zbd (some (R a0 4)) fun o7 =>
      zbd4 (some (n + 1, zset K n (14, 0), zclr I n 0, zclr R n none)) fun n8 K9 I10 R11 =>
      zbd4 (f_X4_init F n8 K9 I10 R11 n) fun n12 K13 I14 R15 =>
      zbd (zdr K13 o7 3) fun a17 =>
      zbd (zwrR K13 R15 a17 x1 (some n) 14) fun R20 =>
      kself z n12 K13 I14 R20 (x1 + (1 : Int32))
    else none
def f_X6_init_105 (F : Nat) (a0 : Nat)  : Nat → Nat → Nat → zK → zI → zR → Int32 → Option (Nat × zK × zI × zR)
  | 0, _, _, _, _, _, _ => none
  | t + 1, z, n, K, I, R, x1 => g_X6_init_105 F a0  (f_X6_init_105 F a0  t) z n K I R x1
def f_X6_init (F : Nat) (n : Nat) (K : zK) (I : zI) (R : zR) (a0 : Nat)  : Option (Nat × zK × zI × zR) :=
  zbd3 (some (n + 1, zset K n (1, 80), zclr I n 0)) fun n21 K22 I23 =>
  if (K22 a0).1 = 16 then
  zbd (some (zup R a0 0 (some n))) fun R25 =>
  zbd (some (zup I23 a0 1 (0 : Int32))) fun I26 =>
  zbd (some (zup I26 a0 2 (-9 : Int32))) fun I27 =>
  zbd4 (some (n21 + 1, zset K22 n21 (14, 0), zclr I27 n21 0, zclr R25 n21 none)) fun n28 K29 I30 R31 =>
  zbd4 (f_X4_init F n28 K29 I30 R31 n21) fun n32 K33 I34 R35 =>
  if (K33 a0).1 = 16 then
  zbd (some (zup R35 a0 3 (some n21))) fun R38 =>
  zbd3 (some (n32 + 1, zset K33 n32 (3, 6), zclr R38 n32 none)) fun n39 K40 R41 =>
  if (K40 a0).1 = 16 then
  zbd (some (zup R41 a0 4 (some n32))) fun R43 =>
  zbd (some (zup I34 a0 5 (0 : Int32))) fun I44 =>
  zbd4 (some (n39 + 1, zset K40 n39 (12, 0), zclr I44 n39 0, zclr R43 n39 none)) fun n45 K46 I47 R48 =>
  zbd4 (f_X2_init F n45 K46 I47 R48 n39) fun n49 K50 I51 R52 =>
  if (K50 a0).1 = 16 then
  zbd (some (zup R52 a0 6 (some n39))) fun R55 =>
  zbd4 (some (n49 + 1, zset K50 n49 (13, 0), zclr I51 n49 0, zclr R55 n49 none)) fun n56 K57 I58 R59 =>
  zbd4 (f_X3_init F n56 K57 I58 R59 n49) fun n60 K61 I62 R63 =>
  if (K61 a0).1 = 16 then
  zbd (some (zup R63 a0 7 (some n49))) fun R66 =>
  zbd4 (some (n60 + 1, zset K61 n60 (10, 0), zclr I62 n60 0, zclr R66 n60 none)) fun n67 K68 I69 R70 =>
  zbd4 (f_X0_init F n67 K68 I69 R70 n60) fun n71 K72 I73 R74 =>
  if (K72 a0).1 = 16 then
  zbd (some (zup R74 a0 8 (some n60))) fun R77 =>
  zbd4 (some (n71 + 1, zset K72 n71 (11, 0), zclr I73 n71 0, zclr R77 n71 none)) fun n78 K79 I80 R81 =>
  zbd4 (f_X1_init F n78 K79 I80 R81 n71) fun n82 K83 I84 R85 =>
  if (K83 a0).1 = 16 then
  zbd (some (zup R85 a0 9 (some n71))) fun R88 =>
  zbd4 (some (n82 + 1, zset K83 n82 (11, 0), zclr I84 n82 0, zclr R88 n82 none)) fun n89 K90 I91 R92 =>
  zbd4 (f_X1_init F n89 K90 I91 R92 n82) fun n93 K94 I95 R96 =>
  if (K94 a0).1 = 16 then
  zbd (some (zup R96 a0 10 (some n82))) fun R99 =>
  f_X6_init_105 F a0 F 7 n93 K94 I95 R99 (0 : Int32)
  else none
  else none
  else none
  else none
  else none
  else none
  else none
  else none
section
variable {p : Program} {l : Launch} {e : Env} {s : State} {m : MethodId} {args : Array Value} {below : List Frame} {meth : Method} {c : Code} {D : zD} {B n n0 n' fd ld : Nat} {K K0 K' : zK} {I I' : zI} {R R' : zR} {H : Heap} {locs : List Loc} {ls : Array Slot} {r : Int32}
set_option maxRecDepth 100000 in
set_option maxHeartbeats 4000000 in
theorem wg_X6_init_105 {F : Nat} {a0 : Nat}  (X : zX p s m c cX6_init 2 RX6 D) (hr : meth.sig.returnType = none) (hlk : meth.locks = false) (hin : meth.name = "<init>")  {kself : Nat → Nat → zK → zI → zR → Int32 → Option (Nat × zK × zI × zR)} (hkself : ∀ (z : Nat) (n : Nat) (K : zK) (I : zI) (R : zR) (x1 : Int32) (cells slots : Nat) (H : Heap) (locs : List Loc) (ls : Array Slot), kself z n K I R x1 = some (n', K', I', R') → cells + 0 + 3 * z ≤ 91 → slots + 0 + 14 * z ≤ 1481 → zS (zOwn B K0 (B + n0)) D B n K I R s.heap H locs → lv_has ls 2 [(0, .ref (B + a0)), (1, .int x1)] → W p l e ({ frames := 3, cells := 91, slots := 1481, locals := 80 } : Room) s m args below meth c H locs cells slots (MQ below (zQv D (zOwn B K0 (B + n0)) B n' K' I' R') args s 91 1481 (zOwn B K0 (B + n0))) (F0 m 105 ls [])) {z : Nat} {x1 : Int32} {cells slots : Nat} (hf : g_X6_init_105 F a0  kself z n K I R x1 = some (n', K', I', R')) (b1 : cells + 0 + 3 * z ≤ 91) (b2 : slots + 0 + 14 * z ≤ 1481) (hW : zS (zOwn B K0 (B + n0)) D B n K I R s.heap H locs) (hl : lv_has ls 2 [(0, .ref (B + a0)), (1, .int x1)]) : W p l e ({ frames := 3, cells := 91, slots := 1481, locals := 80 } : Room) s m args below meth c H locs cells slots (MQ below (zQv D (zOwn B K0 (B + n0)) B n' K' I' R') args s 91 1481 (zOwn B K0 (B + n0))) (F0 m 105 ls []) := by
  unfold g_X6_init_105 at hf
  cases z with
  | zero => cases hf
  | succ z =>
  refine lv_iload_n X.1 X.2.1 dX6_init_105 rfl (lv_at hl 1 rfl) ?_
  refine lv_aload_n X.1 X.2.1 dX6_init_106 rfl (lv_at hl 0 rfl) ?_
  obtain ⟨k1, hg⟩ := zh_if hf
  replace hf := hg
  refine ze_gtR X 6 4 27 (RX6, TX6, 11) rfl hf hW k1 rfl (by decide) kfl_X6_27 dX6_init_107 (fun o2 hg => ?_)
  replace hf := hg
  obtain ⟨a3, rfl, k5, hg⟩ := zh_dr hf
  replace hf := hg
  refine ze_alen X 3 (by decide) hW k5 dX6_init_110 ?_
  refine lv_icmp_ge (tgt := 133) X.1 X.2.1 dX6_init_111 (by decide) (fun c6 => ?_) (fun c6 => ?_)
  · replace hf := zif_pos c6 hf
    obtain ⟨rfl, rfl, rfl, rfl⟩ := zi4 hf
    exact ze_retV X hr hlk hW (by (try dsimp only); omega) (by (try dsimp only); omega) dX6_init_133
  · replace hf := zif_neg c6 hf
    refine lv_aload_n X.1 X.2.1 dX6_init_114 rfl (lv_at hl 0 rfl) ?_
    refine ze_gtR X 6 4 27 (RX6, TX6, 11) rfl hf hW k1 rfl (by decide) kfl_X6_27 dX6_init_115 (fun o7 hg => ?_)
    replace hf := hg
    refine lv_iload_n X.1 X.2.1 dX6_init_118 rfl (lv_at hl 1 rfl) ?_
    refine ze_nw X 4 20 (RX4, TX4, 2) hf rfl kcx_X6_20 kci_X4 kit_X4 hW (by show _ ≤ (91 : Nat); (try dsimp only); omega) (by show _ ≤ (1481 : Nat); (try dsimp only); omega) dX6_init_119 (fun n8 K9 I10 R11 H hg hV => ?_)
    replace hf := hg
    replace hW := hV
    refine lv_dup X.1 X.2.1 dX6_init_122 rfl ?_
    obtain ⟨n12, K13, I14, R15, h16, hg⟩ := zh_bd4 hf
    replace hf := hg
    refine ze_aftV (ze_runIN (b := n) (As := []) (rest := [.ref (B + n), .int x1, zrf B o7]) X 22 (c_X4_init l D B n8 h16) vX4_init kml_X6_22 hW ⟨by decide, by decide⟩ rfl hl.1 rfl (by simp [zcat, zcat_i, zcat_r, zcat_l]) ⟨by show _ + 2 ≤ (91 : Nat); (try dsimp only); omega, by show _ + 12 ≤ (1481 : Nat); (try dsimp only); omega⟩ dX6_init_123) hW (fun H locs hV => ?_)
    replace hW := hV
    obtain ⟨a17, rfl, k19, hg⟩ := zh_dr hf
    replace hf := hg
    refine ze_aast (x := (some n)) X 3 (by decide) hf hW k19 dX6_init_126 (fun R20 H locs hg hV => ?_)
    replace hf := hg
    replace hW := hV
    refine ze_iinc (lv' := [(1, .int (x1 + (1 : Int32))), (0, .ref (B + a0))]) (d := 1) X.1 X.2.1 dX6_init_127 hl (k := 1) rfl (by decide) (by decide) rfl (fun ls hk => ?_)
    replace hl := hk
    refine lv_goto (tgt := 105) X.1 X.2.1 dX6_init_130 (by decide) ?_
    exact hkself _ _ _ _ _ _ _ _ _ _ _ hf (by (try dsimp only); omega) (by (try dsimp only); omega) hW (lv_sub hl [1, 0] rfl)
set_option maxRecDepth 100000 in
set_option maxHeartbeats 4000000 in
theorem w_X6_init_105 {F : Nat} {a0 : Nat}  (X : zX p s m c cX6_init 2 RX6 D) (hr : meth.sig.returnType = none) (hlk : meth.locks = false) (hin : meth.name = "<init>")  {t : Nat} {z : Nat} {x1 : Int32} {cells slots : Nat} (hf : f_X6_init_105 F a0  t z n K I R x1 = some (n', K', I', R')) (b1 : cells + 0 + 3 * z ≤ 91) (b2 : slots + 0 + 14 * z ≤ 1481) (hW : zS (zOwn B K0 (B + n0)) D B n K I R s.heap H locs) (hl : lv_has ls 2 [(0, .ref (B + a0)), (1, .int x1)]) : W p l e ({ frames := 3, cells := 91, slots := 1481, locals := 80 } : Room) s m args below meth c H locs cells slots (MQ below (zQv D (zOwn B K0 (B + n0)) B n' K' I' R') args s 91 1481 (zOwn B K0 (B + n0))) (F0 m 105 ls []) := by
  have key : ∀ t : Nat, ∀ (z : Nat) (n : Nat) (K : zK) (I : zI) (R : zR) (x1 : Int32) (cells slots : Nat) (H : Heap) (locs : List Loc) (ls : Array Slot), f_X6_init_105 F a0  t z n K I R x1 = some (n', K', I', R') → cells + 0 + 3 * z ≤ 91 → slots + 0 + 14 * z ≤ 1481 → zS (zOwn B K0 (B + n0)) D B n K I R s.heap H locs → lv_has ls 2 [(0, .ref (B + a0)), (1, .int x1)] → W p l e ({ frames := 3, cells := 91, slots := 1481, locals := 80 } : Room) s m args below meth c H locs cells slots (MQ below (zQv D (zOwn B K0 (B + n0)) B n' K' I' R') args s 91 1481 (zOwn B K0 (B + n0))) (F0 m 105 ls []) := by
    intro t
    induction t with
    | zero =>
      intro z n K I R x1 cells slots H locs ls hf b1 b2 hW hl
      cases hf
    | succ t ih =>
      intro z n K I R x1 cells slots H locs ls hf b1 b2 hW hl
      exact wg_X6_init_105 X hr hlk hin  ih hf b1 b2 hW hl
  exact key t _ _ _ _ _ _ _ _ _ _ _ hf b1 b2 hW hl
set_option maxRecDepth 100000 in
set_option maxHeartbeats 4000000 in
theorem c_X6_init (l : Launch) (D : zD) (B n : Nat) {F : Nat} {K : zK} {I : zI} {R : zR} {a0 : Nat}  {n' : Nat} {K' : zK} {I' : zI} {R' : zR} (hf : f_X6_init F n K I R a0  = some (n', K', I', R')) : zM l yX6_init cX6_init 2 (none) ({ frames := 3, cells := 91, slots := 1481, locals := 80 } : Room) D B n K I R [.ref (B + a0)] (zQv D (zOwn B K (B + n)) B n' K' I' R') := by
  refine ze_entry (lv0 := [(0, .ref (B + a0))]) (by decide) (by simp [lg_sl, zcat, zcat_i, zcat_r, zcat_l]) (by simp [lv_args, zcat, zcat_i, zcat_r, zcat_l]) (fun p e s m below meth c X hr hlk hin hW ls hl => ?_)
  unfold f_X6_init at hf
  have b1 : (0 : Nat) ≤ 0 := Nat.le_refl _
  refine lv_aload_n X.1 X.2.1 dX6_init_0 rfl (lv_at hl 0 rfl) ?_
  refine ze_obj X hl.1 kml_X6_1 kobj1 kobj2 (by decide) (by decide) dX6_init_1 ?_
  refine lv_aload_n X.1 X.2.1 dX6_init_4 rfl (lv_at hl 0 rfl) ?_
  refine lv_bipush (v := 80) X.1 X.2.1 dX6_init_5 (by decide) ?_
  refine ze_nwI (N := 80) X hf kar_int (by decide) (by decide) (by decide) hW (by show _ ≤ (91 : Nat); (try dsimp only); omega) (by show _ ≤ (1481 : Nat); (try dsimp only); omega) dX6_init_7 (fun n21 K22 I23 H hg hV => ?_)
  replace hf := hg
  replace hW := hV
  obtain ⟨k24, hg⟩ := zh_if hf
  replace hf := hg
  refine ze_putRF (ty := .array .int) (x := (some n)) X hin 6 0 9 (RX6, TX6, 11) rfl (Or.inr ⟨_, rfl⟩) hf hW k24 rfl (by decide) kfl_X6_9 rfl rfl (by decide +kernel) dX6_init_9 (fun R25 H locs hg hV => ?_)
  replace hf := hg
  replace hW := hV
  refine lv_aload_n X.1 X.2.1 dX6_init_12 rfl (lv_at hl 0 rfl) ?_
  refine lv_iconst (v := 0) X.1 X.2.1 dX6_init_13 (by decide) ?_
  refine ze_putI X 6 1 13 (RX6, TX6, 11) rfl hf hW k24 rfl (by decide) kfl_X6_13 rfl (by decide +kernel) dX6_init_14 (fun I26 H locs hg hV => ?_)
  replace hf := hg
  replace hW := hV
  refine lv_aload_n X.1 X.2.1 dX6_init_17 rfl (lv_at hl 0 rfl) ?_
  refine lv_bipush (v := -9) X.1 X.2.1 dX6_init_18 (by decide) ?_
  refine ze_putI X 6 2 17 (RX6, TX6, 11) rfl hf hW k24 rfl (by decide) kfl_X6_17 rfl (by decide +kernel) dX6_init_20 (fun I27 H locs hg hV => ?_)
  replace hf := hg
  replace hW := hV
  refine lv_aload_n X.1 X.2.1 dX6_init_23 rfl (lv_at hl 0 rfl) ?_
  refine ze_nw X 4 20 (RX4, TX4, 2) hf rfl kcx_X6_20 kci_X4 kit_X4 hW (by show _ ≤ (91 : Nat); (try dsimp only); omega) (by show _ ≤ (1481 : Nat); (try dsimp only); omega) dX6_init_24 (fun n28 K29 I30 R31 H hg hV => ?_)
  replace hf := hg
  replace hW := hV
  refine lv_dup X.1 X.2.1 dX6_init_27 rfl ?_
  obtain ⟨n32, K33, I34, R35, h36, hg⟩ := zh_bd4 hf
  replace hf := hg
  refine ze_aftV (ze_runIN (b := n21) (As := []) (rest := [.ref (B + n21), .ref (B + a0)]) X 22 (c_X4_init l D B n28 h36) vX4_init kml_X6_22 hW ⟨by decide, by decide⟩ rfl hl.1 rfl (Nat.le_of_ble_eq_true rfl) ⟨by show _ + 2 ≤ (91 : Nat); (try dsimp only); omega, by show _ + 12 ≤ (1481 : Nat); (try dsimp only); omega⟩ dX6_init_28) hW (fun H locs hV => ?_)
  replace hW := hV
  obtain ⟨k37, hg⟩ := zh_if hf
  replace hf := hg
  refine ze_putRF (ty := .object "LeastPatterns$State") (x := (some n21)) X hin 6 3 23 (RX6, TX6, 11) rfl (Or.inl ⟨_, rfl⟩) hf hW k37 rfl (by decide) kfl_X6_23 rfl rfl (by decide +kernel) dX6_init_31 (fun R38 H locs hg hV => ?_)
  replace hf := hg
  replace hW := hV
  refine lv_aload_n X.1 X.2.1 dX6_init_34 rfl (lv_at hl 0 rfl) ?_
  refine lv_bipush (v := 6) X.1 X.2.1 dX6_init_35 (by decide) ?_
  refine ze_nwR (N := 6) X 3 20 RX4 (by decide) hf kcx_X6_20 kov_X4 (by decide) (by decide) (by decide) hW (by show _ ≤ (91 : Nat); (try dsimp only); omega) (by show _ ≤ (1481 : Nat); (try dsimp only); omega) dX6_init_37 (fun n39 K40 R41 H hg hV => ?_)
  replace hf := hg
  replace hW := hV
  obtain ⟨k42, hg⟩ := zh_if hf
  replace hf := hg
  refine ze_putRF (ty := .array (.object "LeastPatterns$State")) (x := (some n32)) X hin 6 4 27 (RX6, TX6, 11) rfl (Or.inr ⟨_, rfl⟩) hf hW k42 rfl (by decide) kfl_X6_27 rfl rfl (by decide +kernel) dX6_init_40 (fun R43 H locs hg hV => ?_)
  replace hf := hg
  replace hW := hV
  refine lv_aload_n X.1 X.2.1 dX6_init_43 rfl (lv_at hl 0 rfl) ?_
  refine lv_iconst (v := 0) X.1 X.2.1 dX6_init_44 (by decide) ?_
  refine ze_putI X 6 5 31 (RX6, TX6, 11) rfl hf hW k42 rfl (by decide) kfl_X6_31 rfl (by decide +kernel) dX6_init_45 (fun I44 H locs hg hV => ?_)
  replace hf := hg
  replace hW := hV
  refine lv_aload_n X.1 X.2.1 dX6_init_48 rfl (lv_at hl 0 rfl) ?_
  refine ze_nw X 2 34 (RX2, TX2, 9) hf rfl kcx_X6_34 kci_X2 kit_X2 hW (by show _ ≤ (91 : Nat); (try dsimp only); omega) (by show _ ≤ (1481 : Nat); (try dsimp only); omega) dX6_init_49 (fun n45 K46 I47 R48 H hg hV => ?_)
  replace hf := hg
  replace hW := hV
  refine lv_dup X.1 X.2.1 dX6_init_52 rfl ?_
  obtain ⟨n49, K50, I51, R52, h53, hg⟩ := zh_bd4 hf
  replace hf := hg
  refine ze_aftV (ze_runIN (b := n39) (As := []) (rest := [.ref (B + n39), .ref (B + a0)]) X 36 (c_X2_init l D B n45 h53) vX2_init kml_X6_36 hW ⟨by decide, by decide⟩ rfl hl.1 rfl (Nat.le_of_ble_eq_true rfl) ⟨by show _ + 8 ≤ (91 : Nat); (try dsimp only); omega, by show _ + 126 ≤ (1481 : Nat); (try dsimp only); omega⟩ dX6_init_53) hW (fun H locs hV => ?_)
  replace hW := hV
  obtain ⟨k54, hg⟩ := zh_if hf
  replace hf := hg
  refine ze_putRF (ty := .object "LeastPatterns$Reader") (x := (some n39)) X hin 6 6 37 (RX6, TX6, 11) rfl (Or.inl ⟨_, rfl⟩) hf hW k54 rfl (by decide) kfl_X6_37 rfl rfl (by decide +kernel) dX6_init_56 (fun R55 H locs hg hV => ?_)
  replace hf := hg
  replace hW := hV
  refine lv_aload_n X.1 X.2.1 dX6_init_59 rfl (lv_at hl 0 rfl) ?_
  refine ze_nw X 3 41 (RX3, TX3, 5) hf rfl kcx_X6_41 kci_X3 kit_X3 hW (by show _ ≤ (91 : Nat); (try dsimp only); omega) (by show _ ≤ (1481 : Nat); (try dsimp only); omega) dX6_init_60 (fun n56 K57 I58 R59 H hg hV => ?_)
  replace hf := hg
  replace hW := hV
  refine lv_dup X.1 X.2.1 dX6_init_63 rfl ?_
  obtain ⟨n60, K61, I62, R63, h64, hg⟩ := zh_bd4 hf
  replace hf := hg
  refine ze_aftV (ze_runIN (b := n49) (As := []) (rest := [.ref (B + n49), .ref (B + a0)]) X 43 (c_X3_init l D B n56 h64) vX3_init kml_X6_43 hW ⟨by decide, by decide⟩ rfl hl.1 rfl (Nat.le_of_ble_eq_true rfl) ⟨by show _ + 5 ≤ (91 : Nat); (try dsimp only); omega, by show _ + 136 ≤ (1481 : Nat); (try dsimp only); omega⟩ dX6_init_64) hW (fun H locs hV => ?_)
  replace hW := hV
  obtain ⟨k65, hg⟩ := zh_if hf
  replace hf := hg
  refine ze_putRF (ty := .object "LeastPatterns$Shaper") (x := (some n49)) X hin 6 7 44 (RX6, TX6, 11) rfl (Or.inl ⟨_, rfl⟩) hf hW k65 rfl (by decide) kfl_X6_44 rfl rfl (by decide +kernel) dX6_init_67 (fun R66 H locs hg hV => ?_)
  replace hf := hg
  replace hW := hV
  refine lv_aload_n X.1 X.2.1 dX6_init_70 rfl (lv_at hl 0 rfl) ?_
  refine ze_nw X 0 48 (RX0, TX0, 13) hf rfl kcx_X6_48 kci_X0 kit_X0 hW (by show _ ≤ (91 : Nat); (try dsimp only); omega) (by show _ ≤ (1481 : Nat); (try dsimp only); omega) dX6_init_71 (fun n67 K68 I69 R70 H hg hV => ?_)
  replace hf := hg
  replace hW := hV
  refine lv_dup X.1 X.2.1 dX6_init_74 rfl ?_
  obtain ⟨n71, K72, I73, R74, h75, hg⟩ := zh_bd4 hf
  replace hf := hg
  refine ze_aftV (ze_runIN (b := n60) (As := []) (rest := [.ref (B + n60), .ref (B + a0)]) X 50 (c_X0_init l D B n67 h75) vX0_init kml_X6_50 hW ⟨by decide, by decide⟩ rfl hl.1 rfl (Nat.le_of_ble_eq_true rfl) ⟨by show _ + 19 ≤ (91 : Nat); (try dsimp only); omega, by show _ + 370 ≤ (1481 : Nat); (try dsimp only); omega⟩ dX6_init_75) hW (fun H locs hV => ?_)
  replace hW := hV
  obtain ⟨k76, hg⟩ := zh_if hf
  replace hf := hg
  refine ze_putRF (ty := .object "LeastPatterns$Joiner") (x := (some n60)) X hin 6 8 51 (RX6, TX6, 11) rfl (Or.inl ⟨_, rfl⟩) hf hW k76 rfl (by decide) kfl_X6_51 rfl rfl (by decide +kernel) dX6_init_78 (fun R77 H locs hg hV => ?_)
  replace hf := hg
  replace hW := hV
  refine lv_aload_n X.1 X.2.1 dX6_init_81 rfl (lv_at hl 0 rfl) ?_
  refine ze_nw X 1 55 (RX1, TX1, 8) hf rfl kcx_X6_55 kci_X1 kit_X1 hW (by show _ ≤ (91 : Nat); (try dsimp only); omega) (by show _ ≤ (1481 : Nat); (try dsimp only); omega) dX6_init_82 (fun n78 K79 I80 R81 H hg hV => ?_)
  replace hf := hg
  replace hW := hV
  refine lv_dup X.1 X.2.1 dX6_init_85 rfl ?_
  obtain ⟨n82, K83, I84, R85, h86, hg⟩ := zh_bd4 hf
  replace hf := hg
  refine ze_aftV (ze_runIN (b := n71) (As := []) (rest := [.ref (B + n71), .ref (B + a0)]) X 57 (c_X1_init l D B n78 h86) vX1_init kml_X6_57 hW ⟨by decide, by decide⟩ rfl hl.1 rfl (Nat.le_of_ble_eq_true rfl) ⟨by show _ + 14 ≤ (91 : Nat); (try dsimp only); omega, by show _ + 304 ≤ (1481 : Nat); (try dsimp only); omega⟩ dX6_init_86) hW (fun H locs hV => ?_)
  replace hW := hV
  obtain ⟨k87, hg⟩ := zh_if hf
  replace hf := hg
  refine ze_putRF (ty := .object "LeastPatterns$Matcher") (x := (some n71)) X hin 6 9 58 (RX6, TX6, 11) rfl (Or.inl ⟨_, rfl⟩) hf hW k87 rfl (by decide) kfl_X6_58 rfl rfl (by decide +kernel) dX6_init_89 (fun R88 H locs hg hV => ?_)
  replace hf := hg
  replace hW := hV
  refine lv_aload_n X.1 X.2.1 dX6_init_92 rfl (lv_at hl 0 rfl) ?_
  refine ze_nw X 1 55 (RX1, TX1, 8) hf rfl kcx_X6_55 kci_X1 kit_X1 hW (by show _ ≤ (91 : Nat); (try dsimp only); omega) (by show _ ≤ (1481 : Nat); (try dsimp only); omega) dX6_init_93 (fun n89 K90 I91 R92 H hg hV => ?_)
  replace hf := hg
  replace hW := hV
  refine lv_dup X.1 X.2.1 dX6_init_96 rfl ?_
  obtain ⟨n93, K94, I95, R96, h97, hg⟩ := zh_bd4 hf
  replace hf := hg
  refine ze_aftV (ze_runIN (b := n82) (As := []) (rest := [.ref (B + n82), .ref (B + a0)]) X 57 (c_X1_init l D B n89 h97) vX1_init kml_X6_57 hW ⟨by decide, by decide⟩ rfl hl.1 rfl (Nat.le_of_ble_eq_true rfl) ⟨by show _ + 14 ≤ (91 : Nat); (try dsimp only); omega, by show _ + 304 ≤ (1481 : Nat); (try dsimp only); omega⟩ dX6_init_97) hW (fun H locs hV => ?_)
  replace hW := hV
  obtain ⟨k98, hg⟩ := zh_if hf
  replace hf := hg
  refine ze_putRF (ty := .object "LeastPatterns$Matcher") (x := (some n82)) X hin 6 10 62 (RX6, TX6, 11) rfl (Or.inl ⟨_, rfl⟩) hf hW k98 rfl (by decide) kfl_X6_62 rfl rfl (by decide +kernel) dX6_init_100 (fun R99 H locs hg hV => ?_)
  replace hf := hg
  replace hW := hV
  refine lv_iconst (v := 0) X.1 X.2.1 dX6_init_103 (by decide) ?_
  refine lv_istore_n (i := 1) (lv' := [(1, .int (0 : Int32)), (0, .ref (B + a0))]) X.1 X.2.1 dX6_init_104 rfl hl (by decide) rfl (fun ls hk => ?_)
  replace hl := hk
  exact w_X6_init_105 X hr hlk hin hf (by (try dsimp only); omega) (by (try dsimp only); omega) hW (lv_sub hl [1, 0] rfl)
end

/-! LeastPatterns.outside(II)Z -/
def f_X6_outside_9 (F : Nat) (K : zK) (I : zI) (R : zR)   : Option (Int32) :=
  some (1 : Int32)
def f_X6_outside (F : Nat) (K : zK) (I : zI) (R : zR) (x0 : Int32) (x1 : Int32) : Option (Int32) :=
  if x0 < (0 : Int32) then
    f_X6_outside_9 F K I R
  else
    if x0 ≤ x1 then
      some (0 : Int32)
    else
      f_X6_outside_9 F K I R
section
variable {p : Program} {l : Launch} {e : Env} {s : State} {m : MethodId} {args : Array Value} {below : List Frame} {meth : Method} {c : Code} {D : zD} {B n n0 n' fd ld : Nat} {K K0 K' : zK} {I I' : zI} {R R' : zR} {H : Heap} {locs : List Loc} {ls : Array Slot} {r : Int32}
set_option maxRecDepth 100000 in
set_option maxHeartbeats 4000000 in
theorem w_X6_outside_9 {F : Nat}  (X : zX p s m c cX6_outside 2 RX6 D) (hr : meth.sig.returnType = some .boolean) (hlk : meth.locks = false)   (hf : f_X6_outside_9 F K I R   = some r) (hW : zS (zOwn B K (B + n)) D B n K I R s.heap H locs) (hl : lv_has ls 2 []) : W p l e ({ frames := 1, cells := 0, slots := 0, locals := 40 } : Room) s m args below meth c H locs 0 0 (MQ below (zQi D (zOwn B K (B + n)) r B n K I R) args s 0 0 (zOwn B K (B + n))) (F0 m 9 ls []) := by
  unfold f_X6_outside_9 at hf
  refine lv_iconst (v := 1) X.1 X.2.1 dX6_outside_9 (by decide) ?_
  refine lv_goto (tgt := 14) X.1 X.2.1 dX6_outside_10 (by decide) ?_
  obtain rfl := zi1 hf
  exact ze_retZ X hr hlk (by decide) hW (Nat.le_refl _) (Nat.le_refl _) dX6_outside_14
set_option maxRecDepth 100000 in
set_option maxHeartbeats 4000000 in
theorem c_X6_outside (l : Launch) (D : zD) (B n : Nat) {F : Nat} {K : zK} {I : zI} {R : zR} {x0 : Int32} {x1 : Int32} {r : Int32} (hf : f_X6_outside F K I R x0 x1 = some r) : zM l yX6_outside cX6_outside 2 (some .boolean) ({ frames := 1, cells := 0, slots := 0, locals := 40 } : Room) D B n K I R [.int x0, .int x1] (zQi D (zOwn B K (B + n)) r B n K I R) := by
  refine ze_entry (lv0 := [(0, .int x0), (1, .int x1)]) (by decide) (by simp [lg_sl, zcat, zcat_i, zcat_r, zcat_l]) (by simp [lv_args, zcat, zcat_i, zcat_r, zcat_l]) (fun p e s m below meth c X hr hlk hin hW ls hl => ?_)
  unfold f_X6_outside at hf
  refine lv_iload_n X.1 X.2.1 dX6_outside_0 rfl (lv_at hl 0 rfl) ?_
  refine lv_if_lt (tgt := 9) X.1 X.2.1 dX6_outside_1 (by decide) (fun c1 => ?_) (fun c1 => ?_)
  · replace hf := zif_pos c1 hf
    exact w_X6_outside_9 X hr hlk hf hW (lv_sub hl [] rfl)
  · replace hf := zif_neg c1 hf
    refine lv_iload_n X.1 X.2.1 dX6_outside_4 rfl (lv_at hl 0 rfl) ?_
    refine lv_iload_n X.1 X.2.1 dX6_outside_5 rfl (lv_at hl 1 rfl) ?_
    refine lv_icmp_le (tgt := 13) X.1 X.2.1 dX6_outside_6 (by decide) (fun c2 => ?_) (fun c2 => ?_)
    · replace hf := zif_pos c2 hf
      refine lv_iconst (v := 0) X.1 X.2.1 dX6_outside_13 (by decide) ?_
      obtain rfl := zi1 hf
      exact ze_retZ X hr hlk (by decide) hW (Nat.le_refl _) (Nat.le_refl _) dX6_outside_14
    · replace hf := zif_neg c2 hf
      exact w_X6_outside_9 X hr hlk hf hW (lv_sub hl [] rfl)
end

/-! LeastPatterns.type(I)I -/
def f_X6_type (F : Nat) (K : zK) (I : zI) (R : zR) (a0 : Nat) (x1 : Int32) : Option (Int32 × zI) :=
  if x1 < (33 : Int32) then
    some ((-1 : Int32), I)
  else
    if x1 ≤ (126 : Int32) then
      zbd (some (R a0 0)) fun o3 =>
      zbd (zdr K o3 1) fun a4 =>
      zbd (f_X6_outside F K I R (I a0 1) ((zln K a4) - (1 : Int32))) fun v7 =>
      if v7 = (0 : Int32) then
        zbd (some (R a0 0)) fun o10 =>
        zbd (zdr K o10 1) fun a11 =>
        zbd (zwr K I a11 (I a0 1) x1) fun I14 =>
        zbd (some (zup I14 a0 1 ((I14 a0 1) + (1 : Int32)))) fun I15 =>
        some (I15 a0 1, I15)
      else
        some ((-3 : Int32), I)
    else
      some ((-1 : Int32), I)
section
variable {p : Program} {l : Launch} {e : Env} {s : State} {m : MethodId} {args : Array Value} {below : List Frame} {meth : Method} {c : Code} {D : zD} {B n n0 n' fd ld : Nat} {K K0 K' : zK} {I I' : zI} {R R' : zR} {H : Heap} {locs : List Loc} {ls : Array Slot} {r : Int32}
set_option maxRecDepth 100000 in
set_option maxHeartbeats 4000000 in
theorem c_X6_type (l : Launch) (D : zD) (B n : Nat) {F : Nat} {K : zK} {I : zI} {R : zR} {a0 : Nat} {x1 : Int32} {r : Int32} {I' : zI} (hK0 : (K a0).1 = 16) (hf : f_X6_type F K I R a0 x1 = some (r, I')) : zM l yX6_type cX6_type 2 (some .int) ({ frames := 2, cells := 0, slots := 0, locals := 61 } : Room) D B n K I R [.ref (B + a0), .int x1] (zQi D (zOwn B K (B + n)) r B n K I' R) := by
  refine ze_entry (lv0 := [(0, .ref (B + a0)), (1, .int x1)]) (by decide) (by simp [lg_sl, zcat, zcat_i, zcat_r, zcat_l]) (by simp [lv_args, zcat, zcat_i, zcat_r, zcat_l]) (fun p e s m below meth c X hr hlk hin hW ls hl => ?_)
  unfold f_X6_type at hf
  refine lv_iload_n X.1 X.2.1 dX6_type_0 rfl (lv_at hl 1 rfl) ?_
  refine lv_bipush (v := 33) X.1 X.2.1 dX6_type_1 (by decide) ?_
  refine lv_icmp_lt (tgt := 12) X.1 X.2.1 dX6_type_3 (by decide) (fun c1 => ?_) (fun c1 => ?_)
  · replace hf := zif_pos c1 hf
    refine lv_iconst (v := -1) X.1 X.2.1 dX6_type_12 (by decide) ?_
    obtain ⟨rfl, rfl⟩ := zi2 hf
    exact ze_retI X hr hlk hW (Nat.le_refl _) (Nat.le_refl _) dX6_type_13
  · replace hf := zif_neg c1 hf
    refine lv_iload_n X.1 X.2.1 dX6_type_6 rfl (lv_at hl 1 rfl) ?_
    refine lv_bipush (v := 126) X.1 X.2.1 dX6_type_7 (by decide) ?_
    refine lv_icmp_le (tgt := 14) X.1 X.2.1 dX6_type_9 (by decide) (fun c2 => ?_) (fun c2 => ?_)
    · replace hf := zif_pos c2 hf
      refine lv_aload_n X.1 X.2.1 dX6_type_14 rfl (lv_at hl 0 rfl) ?_
      refine ze_getI X 6 1 13 (RX6, TX6, 11) rfl hW hK0 rfl (by decide) kfl_X6_13 dX6_type_15 ?_
      refine lv_aload_n X.1 X.2.1 dX6_type_18 rfl (lv_at hl 0 rfl) ?_
      refine ze_gtR X 6 0 9 (RX6, TX6, 11) rfl hf hW hK0 rfl (by decide) kfl_X6_9 dX6_type_19 (fun o3 hg => ?_)
      replace hf := hg
      obtain ⟨a4, rfl, k6, hg⟩ := zh_dr hf
      replace hf := hg
      refine ze_alen X 1 (by decide) hW k6 dX6_type_22 ?_
      refine lv_iconst (v := 1) X.1 X.2.1 dX6_type_23 (by decide) ?_
      refine lv_isub X.1 X.2.1 dX6_type_24 ?_
      obtain ⟨v7, h8, hg⟩ := zh_bd hf
      replace hf := hg
      refine ze_aftI0 (ze_runS (As := [.int (I a0 1), .int ((zln K a4) - (1 : Int32))]) (rest := []) X 65 (c_X6_outside l D B n h8) vX6_outside kml_X6_65 hW ⟨by decide, by decide⟩ rfl hl.1 rfl (Nat.le_of_ble_eq_true rfl) ⟨Nat.le_refl _, Nat.le_refl _⟩ dX6_type_25) hW (fun H locs hV => ?_)
      replace hW := hV
      refine lv_if_eq (tgt := 34) X.1 X.2.1 dX6_type_28 (by decide) (fun c9 => ?_) (fun c9 => ?_)
      · replace hf := zif_pos c9 hf
        refine lv_aload_n X.1 X.2.1 dX6_type_34 rfl (lv_at hl 0 rfl) ?_
        refine ze_gtR X 6 0 9 (RX6, TX6, 11) rfl hf hW hK0 rfl (by decide) kfl_X6_9 dX6_type_35 (fun o10 hg => ?_)
        replace hf := hg
        refine lv_aload_n X.1 X.2.1 dX6_type_38 rfl (lv_at hl 0 rfl) ?_
        refine ze_getI X 6 1 13 (RX6, TX6, 11) rfl hW hK0 rfl (by decide) kfl_X6_13 dX6_type_39 ?_
        refine lv_iload_n X.1 X.2.1 dX6_type_42 rfl (lv_at hl 1 rfl) ?_
        obtain ⟨a11, rfl, k13, hg⟩ := zh_dr hf
        replace hf := hg
        refine ze_iast X hf hW k13 dX6_type_43 (fun I14 H locs hg hV => ?_)
        replace hf := hg
        replace hW := hV
        refine lv_aload_n X.1 X.2.1 dX6_type_44 rfl (lv_at hl 0 rfl) ?_
        refine lv_dup X.1 X.2.1 dX6_type_45 rfl ?_
        refine ze_getI X 6 1 13 (RX6, TX6, 11) rfl hW hK0 rfl (by decide) kfl_X6_13 dX6_type_46 ?_
        refine lv_iconst (v := 1) X.1 X.2.1 dX6_type_49 (by decide) ?_
        refine lv_iadd X.1 X.2.1 dX6_type_50 ?_
        refine ze_putI X 6 1 13 (RX6, TX6, 11) rfl hf hW hK0 rfl (by decide) kfl_X6_13 rfl (by decide +kernel) dX6_type_51 (fun I15 H locs hg hV => ?_)
        replace hf := hg
        replace hW := hV
        refine lv_aload_n X.1 X.2.1 dX6_type_54 rfl (lv_at hl 0 rfl) ?_
        refine ze_getI X 6 1 13 (RX6, TX6, 11) rfl hW hK0 rfl (by decide) kfl_X6_13 dX6_type_55 ?_
        obtain ⟨rfl, rfl⟩ := zi2 hf
        exact ze_retI X hr hlk hW (Nat.le_refl _) (Nat.le_refl _) dX6_type_58
      · replace hf := zif_neg c9 hf
        refine lv_bipush (v := -3) X.1 X.2.1 dX6_type_31 (by decide) ?_
        obtain ⟨rfl, rfl⟩ := zi2 hf
        exact ze_retI X hr hlk hW (Nat.le_refl _) (Nat.le_refl _) dX6_type_33
    · replace hf := zif_neg c2 hf
      refine lv_iconst (v := -1) X.1 X.2.1 dX6_type_12 (by decide) ?_
      obtain ⟨rfl, rfl⟩ := zi2 hf
      exact ze_retI X hr hlk hW (Nat.le_refl _) (Nat.le_refl _) dX6_type_13
end

/-! LeastPatterns.clear()I -/
def f_X6_clear (F : Nat) (K : zK) (I : zI) (R : zR) (a0 : Nat)  : Option (Int32 × zI) :=
  zbd (some (I a0 1)) fun v1 =>
  zbd (some (zup I a0 1 (0 : Int32))) fun I2 =>
  some (v1, I2)
section
variable {p : Program} {l : Launch} {e : Env} {s : State} {m : MethodId} {args : Array Value} {below : List Frame} {meth : Method} {c : Code} {D : zD} {B n n0 n' fd ld : Nat} {K K0 K' : zK} {I I' : zI} {R R' : zR} {H : Heap} {locs : List Loc} {ls : Array Slot} {r : Int32}
set_option maxRecDepth 100000 in
set_option maxHeartbeats 4000000 in
theorem c_X6_clear (l : Launch) (D : zD) (B n : Nat) {F : Nat} {K : zK} {I : zI} {R : zR} {a0 : Nat}  {r : Int32} {I' : zI} (hK0 : (K a0).1 = 16) (hf : f_X6_clear F K I R a0  = some (r, I')) : zM l yX6_clear cX6_clear 2 (some .int) ({ frames := 1, cells := 0, slots := 0, locals := 40 } : Room) D B n K I R [.ref (B + a0)] (zQi D (zOwn B K (B + n)) r B n K I' R) := by
  refine ze_entry (lv0 := [(0, .ref (B + a0))]) (by decide) (by simp [lg_sl, zcat, zcat_i, zcat_r, zcat_l]) (by simp [lv_args, zcat, zcat_i, zcat_r, zcat_l]) (fun p e s m below meth c X hr hlk hin hW ls hl => ?_)
  unfold f_X6_clear at hf
  refine lv_aload_n X.1 X.2.1 dX6_clear_0 rfl (lv_at hl 0 rfl) ?_
  refine ze_getI X 6 1 13 (RX6, TX6, 11) rfl hW hK0 rfl (by decide) kfl_X6_13 dX6_clear_1 ?_
  refine ze_nm hf (fun v1 hg => ?_)
  replace hf := hg
  refine lv_istore_n (i := 1) (lv' := [(1, .int v1), (0, .ref (B + a0))]) X.1 X.2.1 dX6_clear_4 rfl hl (by decide) rfl (fun ls hk => ?_)
  replace hl := hk
  refine lv_aload_n X.1 X.2.1 dX6_clear_5 rfl (lv_at hl 1 rfl) ?_
  refine lv_iconst (v := 0) X.1 X.2.1 dX6_clear_6 (by decide) ?_
  refine ze_putI X 6 1 13 (RX6, TX6, 11) rfl hf hW hK0 rfl (by decide) kfl_X6_13 rfl (by decide +kernel) dX6_clear_7 (fun I2 H locs hg hV => ?_)
  replace hf := hg
  replace hW := hV
  refine lv_iload_n X.1 X.2.1 dX6_clear_10 rfl (lv_at hl 0 rfl) ?_
  obtain ⟨rfl, rfl⟩ := zi2 hf
  exact ze_retI X hr hlk hW (Nat.le_refl _) (Nat.le_refl _) dX6_clear_11
end

/-! LeastPatterns$Reader.byteAt(I)I -/
def f_X2_byteAt (F : Nat) (K : zK) (I : zI) (R : zR) (a0 : Nat) (x1 : Int32) : Option (Int32) :=
  if x1 < (0 : Int32) then
    some (0 : Int32)
  else
    if (I a0 1) ≤ x1 then
      some (0 : Int32)
    else
      zbd (some (R a0 0)) fun o3 =>
      zbd (zdr K o3 1) fun a4 =>
      if (zln K a4) ≤ x1 then
        some (0 : Int32)
      else
        zbd (some (R a0 0)) fun o8 =>
        zbd (zdr K o8 1) fun a9 =>
        zbd (zrd K I a9 x1) fun v12 =>
        some v12
section
variable {p : Program} {l : Launch} {e : Env} {s : State} {m : MethodId} {args : Array Value} {below : List Frame} {meth : Method} {c : Code} {D : zD} {B n n0 n' fd ld : Nat} {K K0 K' : zK} {I I' : zI} {R R' : zR} {H : Heap} {locs : List Loc} {ls : Array Slot} {r : Int32}
set_option maxRecDepth 100000 in
set_option maxHeartbeats 4000000 in
theorem c_X2_byteAt (l : Launch) (D : zD) (B n : Nat) {F : Nat} {K : zK} {I : zI} {R : zR} {a0 : Nat} {x1 : Int32} {r : Int32} (hK0 : (K a0).1 = 12) (hf : f_X2_byteAt F K I R a0 x1 = some r) : zM l yX2_byteAt cX2_byteAt 2 (some .int) ({ frames := 1, cells := 0, slots := 0, locals := 40 } : Room) D B n K I R [.ref (B + a0), .int x1] (zQi D (zOwn B K (B + n)) r B n K I R) := by
  refine ze_entry (lv0 := [(0, .ref (B + a0)), (1, .int x1)]) (by decide) (by simp [lg_sl, zcat, zcat_i, zcat_r, zcat_l]) (by simp [lv_args, zcat, zcat_i, zcat_r, zcat_l]) (fun p e s m below meth c X hr hlk hin hW ls hl => ?_)
  unfold f_X2_byteAt at hf
  refine lv_iload_n X.1 X.2.1 dX2_byteAt_0 rfl (lv_at hl 1 rfl) ?_
  refine lv_if_lt (tgt := 30) X.1 X.2.1 dX2_byteAt_1 (by decide) (fun c1 => ?_) (fun c1 => ?_)
  · replace hf := zif_pos c1 hf
    refine lv_iconst (v := 0) X.1 X.2.1 dX2_byteAt_30 (by decide) ?_
    obtain rfl := zi1 hf
    exact ze_retI X hr hlk hW (Nat.le_refl _) (Nat.le_refl _) dX2_byteAt_31
  · replace hf := zif_neg c1 hf
    refine lv_iload_n X.1 X.2.1 dX2_byteAt_4 rfl (lv_at hl 1 rfl) ?_
    refine lv_aload_n X.1 X.2.1 dX2_byteAt_5 rfl (lv_at hl 0 rfl) ?_
    refine ze_getI X 2 1 15 (RX2, TX2, 9) rfl hW hK0 rfl (by decide) kfl_X2_15 dX2_byteAt_6 ?_
    refine lv_icmp_ge (tgt := 30) X.1 X.2.1 dX2_byteAt_9 (by decide) (fun c2 => ?_) (fun c2 => ?_)
    · replace hf := zif_pos c2 hf
      refine lv_iconst (v := 0) X.1 X.2.1 dX2_byteAt_30 (by decide) ?_
      obtain rfl := zi1 hf
      exact ze_retI X hr hlk hW (Nat.le_refl _) (Nat.le_refl _) dX2_byteAt_31
    · replace hf := zif_neg c2 hf
      refine lv_iload_n X.1 X.2.1 dX2_byteAt_12 rfl (lv_at hl 1 rfl) ?_
      refine lv_aload_n X.1 X.2.1 dX2_byteAt_13 rfl (lv_at hl 0 rfl) ?_
      refine ze_gtR X 2 0 9 (RX2, TX2, 9) rfl hf hW hK0 rfl (by decide) kfl_X2_9 dX2_byteAt_14 (fun o3 hg => ?_)
      replace hf := hg
      obtain ⟨a4, rfl, k6, hg⟩ := zh_dr hf
      replace hf := hg
      refine ze_alen X 1 (by decide) hW k6 dX2_byteAt_17 ?_
      refine lv_icmp_ge (tgt := 30) X.1 X.2.1 dX2_byteAt_18 (by decide) (fun c7 => ?_) (fun c7 => ?_)
      · replace hf := zif_pos c7 hf
        refine lv_iconst (v := 0) X.1 X.2.1 dX2_byteAt_30 (by decide) ?_
        obtain rfl := zi1 hf
        exact ze_retI X hr hlk hW (Nat.le_refl _) (Nat.le_refl _) dX2_byteAt_31
      · replace hf := zif_neg c7 hf
        refine lv_aload_n X.1 X.2.1 dX2_byteAt_21 rfl (lv_at hl 0 rfl) ?_
        refine ze_gtR X 2 0 9 (RX2, TX2, 9) rfl hf hW hK0 rfl (by decide) kfl_X2_9 dX2_byteAt_22 (fun o8 hg => ?_)
        replace hf := hg
        refine lv_iload_n X.1 X.2.1 dX2_byteAt_25 rfl (lv_at hl 1 rfl) ?_
        obtain ⟨a9, rfl, k11, hg⟩ := zh_dr hf
        replace hf := hg
        refine ze_iald X hf hW k11 dX2_byteAt_26 (fun v12 hg => ?_)
        replace hf := hg
        refine lv_goto (tgt := 31) X.1 X.2.1 dX2_byteAt_27 (by decide) ?_
        obtain rfl := zi1 hf
        exact ze_retI X hr hlk hW (Nat.le_refl _) (Nat.le_refl _) dX2_byteAt_31
end

/-! LeastPatterns$Reader.closeNodes()V -/
def g_X2_closeNodes_0 (F : Nat) (K : zK) (R : zR) (a0 : Nat)  (kself : zI → Option (zI)) (I : zI) : Option (zI) :=
  if (I a0 5) ≤ (0 : Int32) then
    some I
  else
    zbd (f_X2_byteAt F K I R a0 (I a0 2)) fun v2 =>
    if v2 = (41 : Int32) then
      zbd (some (zup I a0 5 ((I a0 5) - (1 : Int32)))) fun I5 =>
      zbd (some (zup I5 a0 2 ((I5 a0 2) + (1 : Int32)))) fun I6 =>
      kself I6
    else
      some I
def f_X2_closeNodes_0 (F : Nat) (K : zK) (R : zR) (a0 : Nat)  : Nat → zI → Option (zI)
  | 0, _ => none
  | t + 1, I => g_X2_closeNodes_0 F K R a0  (f_X2_closeNodes_0 F K R a0  t) I
def f_X2_closeNodes (F : Nat) (K : zK) (I : zI) (R : zR) (a0 : Nat)  : Option (zI) :=
  f_X2_closeNodes_0 F K R a0 F I
section
variable {p : Program} {l : Launch} {e : Env} {s : State} {m : MethodId} {args : Array Value} {below : List Frame} {meth : Method} {c : Code} {D : zD} {B n n0 n' fd ld : Nat} {K K0 K' : zK} {I I' : zI} {R R' : zR} {H : Heap} {locs : List Loc} {ls : Array Slot} {r : Int32}
set_option maxRecDepth 100000 in
set_option maxHeartbeats 4000000 in
theorem wg_X2_closeNodes_0 {F : Nat} {a0 : Nat}  (X : zX p s m c cX2_closeNodes 1 RX2 D) (hr : meth.sig.returnType = none) (hlk : meth.locks = false) (hK0 : (K a0).1 = 12)  {kself : zI → Option (zI)} (hkself : ∀ (I : zI) (H : Heap) (locs : List Loc) (ls : Array Slot), kself I = some I' → zS (zOwn B K (B + n)) D B n K I R s.heap H locs → lv_has ls 1 [(0, .ref (B + a0))] → W p l e ({ frames := 2, cells := 0, slots := 0, locals := 61 } : Room) s m args below meth c H locs 0 0 (MQ below (zQv D (zOwn B K (B + n)) B n K I' R) args s 0 0 (zOwn B K (B + n))) (F0 m 0 ls []))  (hf : g_X2_closeNodes_0 F K R a0  kself I = some I') (hW : zS (zOwn B K (B + n)) D B n K I R s.heap H locs) (hl : lv_has ls 1 [(0, .ref (B + a0))]) : W p l e ({ frames := 2, cells := 0, slots := 0, locals := 61 } : Room) s m args below meth c H locs 0 0 (MQ below (zQv D (zOwn B K (B + n)) B n K I' R) args s 0 0 (zOwn B K (B + n))) (F0 m 0 ls []) := by
  unfold g_X2_closeNodes_0 at hf
  refine lv_aload_n X.1 X.2.1 dX2_closeNodes_0 rfl (lv_at hl 0 rfl) ?_
  refine ze_getI X 2 5 32 (RX2, TX2, 9) rfl hW hK0 rfl (by decide) kfl_X2_32 dX2_closeNodes_1 ?_
  refine lv_if_le (tgt := 43) X.1 X.2.1 dX2_closeNodes_4 (by decide) (fun c1 => ?_) (fun c1 => ?_)
  · replace hf := zif_pos c1 hf
    obtain rfl := zi1 hf
    exact ze_retV X hr hlk hW (Nat.le_refl _) (Nat.le_refl _) dX2_closeNodes_43
  · replace hf := zif_neg c1 hf
    refine lv_aload_n X.1 X.2.1 dX2_closeNodes_7 rfl (lv_at hl 0 rfl) ?_
    refine lv_aload_n X.1 X.2.1 dX2_closeNodes_8 rfl (lv_at hl 0 rfl) ?_
    refine ze_getI X 2 2 19 (RX2, TX2, 9) rfl hW hK0 rfl (by decide) kfl_X2_19 dX2_closeNodes_9 ?_
    obtain ⟨v2, h3, hg⟩ := zh_bd hf
    replace hf := hg
    refine ze_aftI0 (ze_runV (As := [.int (I a0 2)]) (rest := []) X 2 61 (c_X2_byteAt l D B n hK0 h3) vX2_byteAt kml_X2_61 hW hK0 rfl rfl ⟨by decide, by decide⟩ rfl hl.1 rfl (Nat.le_of_ble_eq_true rfl) ⟨Nat.le_refl _, Nat.le_refl _⟩ dX2_closeNodes_12) hW (fun H locs hV => ?_)
    replace hW := hV
    refine lv_bipush (v := 41) X.1 X.2.1 dX2_closeNodes_15 (by decide) ?_
    refine lv_icmp_ne (tgt := 43) X.1 X.2.1 dX2_closeNodes_17 (by decide) (fun c4 => ?_) (fun c4 => ?_)
    · replace hf := zif_neg c4 hf
      obtain rfl := zi1 hf
      exact ze_retV X hr hlk hW (Nat.le_refl _) (Nat.le_refl _) dX2_closeNodes_43
    · replace hf := zif_pos c4 hf
      refine lv_aload_n X.1 X.2.1 dX2_closeNodes_20 rfl (lv_at hl 0 rfl) ?_
      refine lv_dup X.1 X.2.1 dX2_closeNodes_21 rfl ?_
      refine ze_getI X 2 5 32 (RX2, TX2, 9) rfl hW hK0 rfl (by decide) kfl_X2_32 dX2_closeNodes_22 ?_
      refine lv_iconst (v := 1) X.1 X.2.1 dX2_closeNodes_25 (by decide) ?_
      refine lv_isub X.1 X.2.1 dX2_closeNodes_26 ?_
      refine ze_putI X 2 5 32 (RX2, TX2, 9) rfl hf hW hK0 rfl (by decide) kfl_X2_32 rfl (by decide +kernel) dX2_closeNodes_27 (fun I5 H locs hg hV => ?_)
      replace hf := hg
      replace hW := hV
      refine lv_aload_n X.1 X.2.1 dX2_closeNodes_30 rfl (lv_at hl 0 rfl) ?_
      refine lv_dup X.1 X.2.1 dX2_closeNodes_31 rfl ?_
      refine ze_getI X 2 2 19 (RX2, TX2, 9) rfl hW hK0 rfl (by decide) kfl_X2_19 dX2_closeNodes_32 ?_
      refine lv_iconst (v := 1) X.1 X.2.1 dX2_closeNodes_35 (by decide) ?_
      refine lv_iadd X.1 X.2.1 dX2_closeNodes_36 ?_
      refine ze_putI X 2 2 19 (RX2, TX2, 9) rfl hf hW hK0 rfl (by decide) kfl_X2_19 rfl (by decide +kernel) dX2_closeNodes_37 (fun I6 H locs hg hV => ?_)
      replace hf := hg
      replace hW := hV
      refine lv_goto (tgt := 0) X.1 X.2.1 dX2_closeNodes_40 (by decide) ?_
      exact hkself _ _ _ _ hf hW hl
set_option maxRecDepth 100000 in
set_option maxHeartbeats 4000000 in
theorem w_X2_closeNodes_0 {F : Nat} {a0 : Nat}  (X : zX p s m c cX2_closeNodes 1 RX2 D) (hr : meth.sig.returnType = none) (hlk : meth.locks = false) (hK0 : (K a0).1 = 12)  {t : Nat}  (hf : f_X2_closeNodes_0 F K R a0  t I = some I') (hW : zS (zOwn B K (B + n)) D B n K I R s.heap H locs) (hl : lv_has ls 1 [(0, .ref (B + a0))]) : W p l e ({ frames := 2, cells := 0, slots := 0, locals := 61 } : Room) s m args below meth c H locs 0 0 (MQ below (zQv D (zOwn B K (B + n)) B n K I' R) args s 0 0 (zOwn B K (B + n))) (F0 m 0 ls []) := by
  have key : ∀ t : Nat, ∀ (I : zI) (H : Heap) (locs : List Loc) (ls : Array Slot), f_X2_closeNodes_0 F K R a0  t I = some I' → zS (zOwn B K (B + n)) D B n K I R s.heap H locs → lv_has ls 1 [(0, .ref (B + a0))] → W p l e ({ frames := 2, cells := 0, slots := 0, locals := 61 } : Room) s m args below meth c H locs 0 0 (MQ below (zQv D (zOwn B K (B + n)) B n K I' R) args s 0 0 (zOwn B K (B + n))) (F0 m 0 ls []) := by
    intro t
    induction t with
    | zero =>
      intro I H locs ls hf hW hl
      cases hf
    | succ t ih =>
      intro I H locs ls hf hW hl
      exact wg_X2_closeNodes_0 X hr hlk hK0  ih hf hW hl
  exact key t _ _ _ _ hf hW hl
set_option maxRecDepth 100000 in
set_option maxHeartbeats 4000000 in
theorem c_X2_closeNodes (l : Launch) (D : zD) (B n : Nat) {F : Nat} {K : zK} {I : zI} {R : zR} {a0 : Nat}  {I' : zI} (hK0 : (K a0).1 = 12) (hf : f_X2_closeNodes F K I R a0  = some I') : zM l yX2_closeNodes cX2_closeNodes 1 (none) ({ frames := 2, cells := 0, slots := 0, locals := 61 } : Room) D B n K I R [.ref (B + a0)] (zQv D (zOwn B K (B + n)) B n K I' R) := by
  refine ze_entry (lv0 := [(0, .ref (B + a0))]) (by decide) (by simp [lg_sl, zcat, zcat_i, zcat_r, zcat_l]) (by simp [lv_args, zcat, zcat_i, zcat_r, zcat_l]) (fun p e s m below meth c X hr hlk hin hW ls hl => ?_)
  unfold f_X2_closeNodes at hf
  exact w_X2_closeNodes_0 X hr hlk hK0 hf hW hl
end

/-! LeastPatterns$Reader.faulty(I)Z -/
def f_X2_faulty (F : Nat) (K : zK) (I : zI) (R : zR) (a0 : Nat) (x1 : Int32) : Option (Int32 × zI) :=
  zbd (some (zup I a0 3 x1)) fun I1 =>
  some ((0 : Int32), I1)
section
variable {p : Program} {l : Launch} {e : Env} {s : State} {m : MethodId} {args : Array Value} {below : List Frame} {meth : Method} {c : Code} {D : zD} {B n n0 n' fd ld : Nat} {K K0 K' : zK} {I I' : zI} {R R' : zR} {H : Heap} {locs : List Loc} {ls : Array Slot} {r : Int32}
set_option maxRecDepth 100000 in
set_option maxHeartbeats 4000000 in
theorem c_X2_faulty (l : Launch) (D : zD) (B n : Nat) {F : Nat} {K : zK} {I : zI} {R : zR} {a0 : Nat} {x1 : Int32} {r : Int32} {I' : zI} (hK0 : (K a0).1 = 12) (hf : f_X2_faulty F K I R a0 x1 = some (r, I')) : zM l yX2_faulty cX2_faulty 2 (some .boolean) ({ frames := 1, cells := 0, slots := 0, locals := 40 } : Room) D B n K I R [.ref (B + a0), .int x1] (zQi D (zOwn B K (B + n)) r B n K I' R) := by
  refine ze_entry (lv0 := [(0, .ref (B + a0)), (1, .int x1)]) (by decide) (by simp [lg_sl, zcat, zcat_i, zcat_r, zcat_l]) (by simp [lv_args, zcat, zcat_i, zcat_r, zcat_l]) (fun p e s m below meth c X hr hlk hin hW ls hl => ?_)
  unfold f_X2_faulty at hf
  refine lv_aload_n X.1 X.2.1 dX2_faulty_0 rfl (lv_at hl 0 rfl) ?_
  refine lv_iload_n X.1 X.2.1 dX2_faulty_1 rfl (lv_at hl 1 rfl) ?_
  refine ze_putI X 2 3 22 (RX2, TX2, 9) rfl hf hW hK0 rfl (by decide) kfl_X2_22 rfl (by decide +kernel) dX2_faulty_2 (fun I1 H locs hg hV => ?_)
  replace hf := hg
  replace hW := hV
  refine lv_iconst (v := 0) X.1 X.2.1 dX2_faulty_5 (by decide) ?_
  obtain ⟨rfl, rfl⟩ := zi2 hf
  exact ze_retZ X hr hlk (by decide) hW (Nat.le_refl _) (Nat.le_refl _) dX2_faulty_6
end

/-! LeastPatterns$Term.argumentsOf(I)I -/
def f_X5_argumentsOf (F : Nat) (K : zK) (I : zI) (R : zR) (a0 : Nat) (x1 : Int32) : Option (Int32) :=
  if x1 < (0 : Int32) then
    some (0 : Int32)
  else
    if (I a0 3) ≤ x1 then
      some (0 : Int32)
    else
      zbd (some (R a0 0)) fun o3 =>
      zbd (zdr K o3 1) fun a4 =>
      zbd (zrd K I a4 x1) fun v7 =>
      some (v7 &&& (15 : Int32))
section
variable {p : Program} {l : Launch} {e : Env} {s : State} {m : MethodId} {args : Array Value} {below : List Frame} {meth : Method} {c : Code} {D : zD} {B n n0 n' fd ld : Nat} {K K0 K' : zK} {I I' : zI} {R R' : zR} {H : Heap} {locs : List Loc} {ls : Array Slot} {r : Int32}
set_option maxRecDepth 100000 in
set_option maxHeartbeats 4000000 in
theorem c_X5_argumentsOf (l : Launch) (D : zD) (B n : Nat) {F : Nat} {K : zK} {I : zI} {R : zR} {a0 : Nat} {x1 : Int32} {r : Int32} (hK0 : (K a0).1 = 15) (hf : f_X5_argumentsOf F K I R a0 x1 = some r) : zM l yX5_argumentsOf cX5_argumentsOf 2 (some .int) ({ frames := 1, cells := 0, slots := 0, locals := 40 } : Room) D B n K I R [.ref (B + a0), .int x1] (zQi D (zOwn B K (B + n)) r B n K I R) := by
  refine ze_entry (lv0 := [(0, .ref (B + a0)), (1, .int x1)]) (by decide) (by simp [lg_sl, zcat, zcat_i, zcat_r, zcat_l]) (by simp [lv_args, zcat, zcat_i, zcat_r, zcat_l]) (fun p e s m below meth c X hr hlk hin hW ls hl => ?_)
  unfold f_X5_argumentsOf at hf
  refine lv_iload_n X.1 X.2.1 dX5_argumentsOf_0 rfl (lv_at hl 1 rfl) ?_
  refine lv_if_lt (tgt := 24) X.1 X.2.1 dX5_argumentsOf_1 (by decide) (fun c1 => ?_) (fun c1 => ?_)
  · replace hf := zif_pos c1 hf
    refine lv_iconst (v := 0) X.1 X.2.1 dX5_argumentsOf_24 (by decide) ?_
    obtain rfl := zi1 hf
    exact ze_retI X hr hlk hW (Nat.le_refl _) (Nat.le_refl _) dX5_argumentsOf_25
  · replace hf := zif_neg c1 hf
    refine lv_iload_n X.1 X.2.1 dX5_argumentsOf_4 rfl (lv_at hl 1 rfl) ?_
    refine lv_aload_n X.1 X.2.1 dX5_argumentsOf_5 rfl (lv_at hl 0 rfl) ?_
    refine ze_getI X 5 3 21 (RX5, TX5, 4) rfl hW hK0 rfl (by decide) kfl_X5_21 dX5_argumentsOf_6 ?_
    refine lv_icmp_ge (tgt := 24) X.1 X.2.1 dX5_argumentsOf_9 (by decide) (fun c2 => ?_) (fun c2 => ?_)
    · replace hf := zif_pos c2 hf
      refine lv_iconst (v := 0) X.1 X.2.1 dX5_argumentsOf_24 (by decide) ?_
      obtain rfl := zi1 hf
      exact ze_retI X hr hlk hW (Nat.le_refl _) (Nat.le_refl _) dX5_argumentsOf_25
    · replace hf := zif_neg c2 hf
      refine lv_aload_n X.1 X.2.1 dX5_argumentsOf_12 rfl (lv_at hl 0 rfl) ?_
      refine ze_gtR X 5 0 9 (RX5, TX5, 4) rfl hf hW hK0 rfl (by decide) kfl_X5_9 dX5_argumentsOf_13 (fun o3 hg => ?_)
      replace hf := hg
      refine lv_iload_n X.1 X.2.1 dX5_argumentsOf_16 rfl (lv_at hl 1 rfl) ?_
      obtain ⟨a4, rfl, k6, hg⟩ := zh_dr hf
      replace hf := hg
      refine ze_iald X hf hW k6 dX5_argumentsOf_17 (fun v7 hg => ?_)
      replace hf := hg
      refine lv_bipush (v := 15) X.1 X.2.1 dX5_argumentsOf_18 (by decide) ?_
      refine lv_iand X.1 X.2.1 dX5_argumentsOf_20 ?_
      refine lv_goto (tgt := 25) X.1 X.2.1 dX5_argumentsOf_21 (by decide) ?_
      obtain rfl := zi1 hf
      exact ze_retI X hr hlk hW (Nat.le_refl _) (Nat.le_refl _) dX5_argumentsOf_25
end

/-! LeastPatterns$Term.depthOf(I)I -/
def f_X5_depthOf (F : Nat) (K : zK) (I : zI) (R : zR) (a0 : Nat) (x1 : Int32) : Option (Int32) :=
  if x1 < (0 : Int32) then
    some (0 : Int32)
  else
    if (I a0 3) ≤ x1 then
      some (0 : Int32)
    else
      zbd (some (R a0 2)) fun o3 =>
      zbd (zdr K o3 1) fun a4 =>
      zbd (zrd K I a4 x1) fun v7 =>
      some v7
section
variable {p : Program} {l : Launch} {e : Env} {s : State} {m : MethodId} {args : Array Value} {below : List Frame} {meth : Method} {c : Code} {D : zD} {B n n0 n' fd ld : Nat} {K K0 K' : zK} {I I' : zI} {R R' : zR} {H : Heap} {locs : List Loc} {ls : Array Slot} {r : Int32}
set_option maxRecDepth 100000 in
set_option maxHeartbeats 4000000 in
theorem c_X5_depthOf (l : Launch) (D : zD) (B n : Nat) {F : Nat} {K : zK} {I : zI} {R : zR} {a0 : Nat} {x1 : Int32} {r : Int32} (hK0 : (K a0).1 = 15) (hf : f_X5_depthOf F K I R a0 x1 = some r) : zM l yX5_depthOf cX5_depthOf 2 (some .int) ({ frames := 1, cells := 0, slots := 0, locals := 40 } : Room) D B n K I R [.ref (B + a0), .int x1] (zQi D (zOwn B K (B + n)) r B n K I R) := by
  refine ze_entry (lv0 := [(0, .ref (B + a0)), (1, .int x1)]) (by decide) (by simp [lg_sl, zcat, zcat_i, zcat_r, zcat_l]) (by simp [lv_args, zcat, zcat_i, zcat_r, zcat_l]) (fun p e s m below meth c X hr hlk hin hW ls hl => ?_)
  unfold f_X5_depthOf at hf
  refine lv_iload_n X.1 X.2.1 dX5_depthOf_0 rfl (lv_at hl 1 rfl) ?_
  refine lv_if_lt (tgt := 21) X.1 X.2.1 dX5_depthOf_1 (by decide) (fun c1 => ?_) (fun c1 => ?_)
  · replace hf := zif_pos c1 hf
    refine lv_iconst (v := 0) X.1 X.2.1 dX5_depthOf_21 (by decide) ?_
    obtain rfl := zi1 hf
    exact ze_retI X hr hlk hW (Nat.le_refl _) (Nat.le_refl _) dX5_depthOf_22
  · replace hf := zif_neg c1 hf
    refine lv_iload_n X.1 X.2.1 dX5_depthOf_4 rfl (lv_at hl 1 rfl) ?_
    refine lv_aload_n X.1 X.2.1 dX5_depthOf_5 rfl (lv_at hl 0 rfl) ?_
    refine ze_getI X 5 3 21 (RX5, TX5, 4) rfl hW hK0 rfl (by decide) kfl_X5_21 dX5_depthOf_6 ?_
    refine lv_icmp_ge (tgt := 21) X.1 X.2.1 dX5_depthOf_9 (by decide) (fun c2 => ?_) (fun c2 => ?_)
    · replace hf := zif_pos c2 hf
      refine lv_iconst (v := 0) X.1 X.2.1 dX5_depthOf_21 (by decide) ?_
      obtain rfl := zi1 hf
      exact ze_retI X hr hlk hW (Nat.le_refl _) (Nat.le_refl _) dX5_depthOf_22
    · replace hf := zif_neg c2 hf
      refine lv_aload_n X.1 X.2.1 dX5_depthOf_12 rfl (lv_at hl 0 rfl) ?_
      refine ze_gtR X 5 2 18 (RX5, TX5, 4) rfl hf hW hK0 rfl (by decide) kfl_X5_18 dX5_depthOf_13 (fun o3 hg => ?_)
      replace hf := hg
      refine lv_iload_n X.1 X.2.1 dX5_depthOf_16 rfl (lv_at hl 1 rfl) ?_
      obtain ⟨a4, rfl, k6, hg⟩ := zh_dr hf
      replace hf := hg
      refine ze_iald X hf hW k6 dX5_depthOf_17 (fun v7 hg => ?_)
      replace hf := hg
      refine lv_goto (tgt := 22) X.1 X.2.1 dX5_depthOf_18 (by decide) ?_
      obtain rfl := zi1 hf
      exact ze_retI X hr hlk hW (Nat.le_refl _) (Nat.le_refl _) dX5_depthOf_22
end

/-! LeastPatterns$Term.spanOf(I)I -/
def f_X5_spanOf (F : Nat) (K : zK) (I : zI) (R : zR) (a0 : Nat) (x1 : Int32) : Option (Int32) :=
  if x1 < (0 : Int32) then
    some (0 : Int32)
  else
    if (I a0 3) ≤ x1 then
      some (0 : Int32)
    else
      zbd (some (R a0 1)) fun o3 =>
      zbd (zdr K o3 1) fun a4 =>
      zbd (zrd K I a4 x1) fun v7 =>
      some v7
section
variable {p : Program} {l : Launch} {e : Env} {s : State} {m : MethodId} {args : Array Value} {below : List Frame} {meth : Method} {c : Code} {D : zD} {B n n0 n' fd ld : Nat} {K K0 K' : zK} {I I' : zI} {R R' : zR} {H : Heap} {locs : List Loc} {ls : Array Slot} {r : Int32}
set_option maxRecDepth 100000 in
set_option maxHeartbeats 4000000 in
theorem c_X5_spanOf (l : Launch) (D : zD) (B n : Nat) {F : Nat} {K : zK} {I : zI} {R : zR} {a0 : Nat} {x1 : Int32} {r : Int32} (hK0 : (K a0).1 = 15) (hf : f_X5_spanOf F K I R a0 x1 = some r) : zM l yX5_spanOf cX5_spanOf 2 (some .int) ({ frames := 1, cells := 0, slots := 0, locals := 40 } : Room) D B n K I R [.ref (B + a0), .int x1] (zQi D (zOwn B K (B + n)) r B n K I R) := by
  refine ze_entry (lv0 := [(0, .ref (B + a0)), (1, .int x1)]) (by decide) (by simp [lg_sl, zcat, zcat_i, zcat_r, zcat_l]) (by simp [lv_args, zcat, zcat_i, zcat_r, zcat_l]) (fun p e s m below meth c X hr hlk hin hW ls hl => ?_)
  unfold f_X5_spanOf at hf
  refine lv_iload_n X.1 X.2.1 dX5_spanOf_0 rfl (lv_at hl 1 rfl) ?_
  refine lv_if_lt (tgt := 21) X.1 X.2.1 dX5_spanOf_1 (by decide) (fun c1 => ?_) (fun c1 => ?_)
  · replace hf := zif_pos c1 hf
    refine lv_iconst (v := 0) X.1 X.2.1 dX5_spanOf_21 (by decide) ?_
    obtain rfl := zi1 hf
    exact ze_retI X hr hlk hW (Nat.le_refl _) (Nat.le_refl _) dX5_spanOf_22
  · replace hf := zif_neg c1 hf
    refine lv_iload_n X.1 X.2.1 dX5_spanOf_4 rfl (lv_at hl 1 rfl) ?_
    refine lv_aload_n X.1 X.2.1 dX5_spanOf_5 rfl (lv_at hl 0 rfl) ?_
    refine ze_getI X 5 3 21 (RX5, TX5, 4) rfl hW hK0 rfl (by decide) kfl_X5_21 dX5_spanOf_6 ?_
    refine lv_icmp_ge (tgt := 21) X.1 X.2.1 dX5_spanOf_9 (by decide) (fun c2 => ?_) (fun c2 => ?_)
    · replace hf := zif_pos c2 hf
      refine lv_iconst (v := 0) X.1 X.2.1 dX5_spanOf_21 (by decide) ?_
      obtain rfl := zi1 hf
      exact ze_retI X hr hlk hW (Nat.le_refl _) (Nat.le_refl _) dX5_spanOf_22
    · replace hf := zif_neg c2 hf
      refine lv_aload_n X.1 X.2.1 dX5_spanOf_12 rfl (lv_at hl 0 rfl) ?_
      refine ze_gtR X 5 1 15 (RX5, TX5, 4) rfl hf hW hK0 rfl (by decide) kfl_X5_15 dX5_spanOf_13 (fun o3 hg => ?_)
      replace hf := hg
      refine lv_iload_n X.1 X.2.1 dX5_spanOf_16 rfl (lv_at hl 1 rfl) ?_
      obtain ⟨a4, rfl, k6, hg⟩ := zh_dr hf
      replace hf := hg
      refine ze_iald X hf hW k6 dX5_spanOf_17 (fun v7 hg => ?_)
      replace hf := hg
      refine lv_goto (tgt := 22) X.1 X.2.1 dX5_spanOf_18 (by decide) ?_
      obtain rfl := zi1 hf
      exact ze_retI X hr hlk hW (Nat.le_refl _) (Nat.le_refl _) dX5_spanOf_22
end

/-! LeastPatterns$Term.settle()V -/
def f_X5_settle_99 (F : Nat) (K : zK) (R : zR) (a0 : Nat) (k56 : zI → Int32 → Option (zI)) (k74 : zI → Int32 → Int32 → Int32 → Option (zI)) (I : zI) (x1 : Int32) (x2 : Int32) (x3 : Int32) : Option (zI) :=
  zbd (f_X5_spanOf F K I R a0 x2) fun v1 =>
  zbd (some (x2 + v1)) fun v3 =>
  k74 I x1 v3 (x3 + (-1 : Int32))
def g_X5_settle_74 (F : Nat) (K : zK) (R : zR) (a0 : Nat) (k56 : zI → Int32 → Option (zI)) (kself : zI → Int32 → Int32 → Int32 → Option (zI)) (I : zI) (x1 : Int32) (x2 : Int32) (x3 : Int32) : Option (zI) :=
  if x3 ≤ (0 : Int32) then
    k56 I (x1 + (1 : Int32))
  else
    if (I a0 3) ≤ x2 then
      f_X5_settle_99 F K R a0 k56 kself I x1 x2 x3
    else
      zbd (some (R a0 2)) fun o6 =>
      zbd (f_X5_depthOf F K I R a0 x1) fun v7 =>
      zbd (zdr K o6 1) fun a9 =>
      zbd (zwr K I a9 x2 (v7 + (1 : Int32))) fun I12 =>
      f_X5_settle_99 F K R a0 k56 kself I12 x1 x2 x3
def f_X5_settle_74 (F : Nat) (K : zK) (R : zR) (a0 : Nat) (k56 : zI → Int32 → Option (zI)) : Nat → zI → Int32 → Int32 → Int32 → Option (zI)
  | 0, _, _, _, _ => none
  | t + 1, I, x1, x2, x3 => g_X5_settle_74 F K R a0 k56 (f_X5_settle_74 F K R a0 k56 t) I x1 x2 x3
def g_X5_settle_56 (F : Nat) (K : zK) (R : zR) (a0 : Nat)  (kself : zI → Int32 → Option (zI)) (I : zI) (x1 : Int32) : Option (zI) :=
  if (I a0 3) ≤ x1 then
    some I
  else
    zbd (some (x1 + (1 : Int32))) fun v14 =>
    zbd (f_X5_argumentsOf F K I R a0 x1) fun v15 =>
    f_X5_settle_74 F K R a0 kself F I x1 v14 v15
def f_X5_settle_56 (F : Nat) (K : zK) (R : zR) (a0 : Nat)  : Nat → zI → Int32 → Option (zI)
  | 0, _, _ => none
  | t + 1, I, x1 => g_X5_settle_56 F K R a0  (f_X5_settle_56 F K R a0  t) I x1
def g_X5_settle_21 (F : Nat) (K : zK) (R : zR) (a0 : Nat) (k7 : zI → Int32 → Option (zI)) (kself : zI → Int32 → Int32 → Int32 → Option (zI)) (I : zI) (x1 : Int32) (x2 : Int32) (x3 : Int32) : Option (zI) :=
  if x3 ≤ (0 : Int32) then
    zbd (some (R a0 1)) fun o18 =>
    zbd (zdr K o18 1) fun a19 =>
    zbd (zwr K I a19 x1 (x2 - x1)) fun I22 =>
    k7 I22 (x1 + (-1 : Int32))
  else
    zbd (f_X5_spanOf F K I R a0 x2) fun v23 =>
    zbd (some (x2 + v23)) fun v25 =>
    kself I x1 v25 (x3 + (-1 : Int32))
def f_X5_settle_21 (F : Nat) (K : zK) (R : zR) (a0 : Nat) (k7 : zI → Int32 → Option (zI)) : Nat → zI → Int32 → Int32 → Int32 → Option (zI)
  | 0, _, _, _, _ => none
  | t + 1, I, x1, x2, x3 => g_X5_settle_21 F K R a0 k7 (f_X5_settle_21 F K R a0 k7 t) I x1 x2 x3
def g_X5_settle_7 (F : Nat) (K : zK) (R : zR) (a0 : Nat)  (kself : zI → Int32 → Option (zI)) (I : zI) (x1 : Int32) : Option (zI) :=
  if x1 < (0 : Int32) then
    f_X5_settle_56 F K R a0 F I (0 : Int32)
  else
    zbd (some (x1 + (1 : Int32))) fun v27 =>
    zbd (f_X5_argumentsOf F K I R a0 x1) fun v28 =>
    f_X5_settle_21 F K R a0 kself F I x1 v27 v28
def f_X5_settle_7 (F : Nat) (K : zK) (R : zR) (a0 : Nat)  : Nat → zI → Int32 → Option (zI)
  | 0, _, _ => none
  | t + 1, I, x1 => g_X5_settle_7 F K R a0  (f_X5_settle_7 F K R a0  t) I x1
def f_X5_settle (F : Nat) (K : zK) (I : zI) (R : zR) (a0 : Nat)  : Option (zI) :=
  zbd (some ((I a0 3) - (1 : Int32))) fun v30 =>
  f_X5_settle_7 F K R a0 F I v30
section
variable {p : Program} {l : Launch} {e : Env} {s : State} {m : MethodId} {args : Array Value} {below : List Frame} {meth : Method} {c : Code} {D : zD} {B n n0 n' fd ld : Nat} {K K0 K' : zK} {I I' : zI} {R R' : zR} {H : Heap} {locs : List Loc} {ls : Array Slot} {r : Int32}
set_option maxRecDepth 100000 in
set_option maxHeartbeats 4000000 in
theorem w_X5_settle_99 {F : Nat} {a0 : Nat} {k56 : zI → Int32 → Option (zI)} {k74 : zI → Int32 → Int32 → Int32 → Option (zI)} (X : zX p s m c cX5_settle 4 RX5 D) (hr : meth.sig.returnType = none) (hlk : meth.locks = false) (hK0 : (K a0).1 = 15) (hk56 : ∀ (I : zI) (x1 : Int32) (H : Heap) (locs : List Loc) (ls : Array Slot), k56 I x1 = some I' → zS (zOwn B K (B + n)) D B n K I R s.heap H locs → lv_has ls 4 [(0, .ref (B + a0)), (1, .int x1)] → W p l e ({ frames := 2, cells := 0, slots := 0, locals := 61 } : Room) s m args below meth c H locs 0 0 (MQ below (zQv D (zOwn B K (B + n)) B n K I' R) args s 0 0 (zOwn B K (B + n))) (F0 m 56 ls [])) (hk74 : ∀ (I : zI) (x1 : Int32) (x2 : Int32) (x3 : Int32) (H : Heap) (locs : List Loc) (ls : Array Slot), k74 I x1 x2 x3 = some I' → zS (zOwn B K (B + n)) D B n K I R s.heap H locs → lv_has ls 4 [(0, .ref (B + a0)), (1, .int x1), (2, .int x2), (3, .int x3)] → W p l e ({ frames := 2, cells := 0, slots := 0, locals := 61 } : Room) s m args below meth c H locs 0 0 (MQ below (zQv D (zOwn B K (B + n)) B n K I' R) args s 0 0 (zOwn B K (B + n))) (F0 m 74 ls [])) {x1 : Int32} {x2 : Int32} {x3 : Int32} (hf : f_X5_settle_99 F K R a0 k56 k74 I x1 x2 x3 = some I') (hW : zS (zOwn B K (B + n)) D B n K I R s.heap H locs) (hl : lv_has ls 4 [(0, .ref (B + a0)), (1, .int x1), (2, .int x2), (3, .int x3)]) : W p l e ({ frames := 2, cells := 0, slots := 0, locals := 61 } : Room) s m args below meth c H locs 0 0 (MQ below (zQv D (zOwn B K (B + n)) B n K I' R) args s 0 0 (zOwn B K (B + n))) (F0 m 99 ls []) := by
  unfold f_X5_settle_99 at hf
  refine lv_iload_n X.1 X.2.1 dX5_settle_99 rfl (lv_at hl 2 rfl) ?_
  refine lv_aload_n X.1 X.2.1 dX5_settle_100 rfl (lv_at hl 0 rfl) ?_
  refine lv_iload_n X.1 X.2.1 dX5_settle_101 rfl (lv_at hl 2 rfl) ?_
  obtain ⟨v1, h2, hg⟩ := zh_bd hf
  replace hf := hg
  refine ze_aftI0 (ze_runV (As := [.int x2]) (rest := [.int x2]) X 5 39 (c_X5_spanOf l D B n hK0 h2) vX5_spanOf kml_X5_39 hW hK0 rfl rfl ⟨by decide, by decide⟩ rfl hl.1 rfl (Nat.le_of_ble_eq_true rfl) ⟨Nat.le_refl _, Nat.le_refl _⟩ dX5_settle_102) hW (fun H locs hV => ?_)
  replace hW := hV
  refine lv_iadd X.1 X.2.1 dX5_settle_105 ?_
  refine ze_nm hf (fun v3 hg => ?_)
  replace hf := hg
  refine lv_istore_n (i := 2) (lv' := [(2, .int v3), (0, .ref (B + a0)), (1, .int x1), (3, .int x3)]) X.1 X.2.1 dX5_settle_106 rfl hl (by decide) rfl (fun ls hk => ?_)
  replace hl := hk
  refine ze_iinc (lv' := [(3, .int (x3 + (-1 : Int32))), (2, .int v3), (0, .ref (B + a0)), (1, .int x1)]) (d := -1) X.1 X.2.1 dX5_settle_107 hl (k := 3) rfl (by decide) (by decide) rfl (fun ls hk => ?_)
  replace hl := hk
  refine lv_goto (tgt := 74) X.1 X.2.1 dX5_settle_110 (by decide) ?_
  exact hk74 _ _ _ _ _ _ _ hf hW (lv_sub hl [2, 3, 1, 0] rfl)
set_option maxRecDepth 100000 in
set_option maxHeartbeats 4000000 in
theorem wg_X5_settle_74 {F : Nat} {a0 : Nat} {k56 : zI → Int32 → Option (zI)} (X : zX p s m c cX5_settle 4 RX5 D) (hr : meth.sig.returnType = none) (hlk : meth.locks = false) (hK0 : (K a0).1 = 15) (hk56 : ∀ (I : zI) (x1 : Int32) (H : Heap) (locs : List Loc) (ls : Array Slot), k56 I x1 = some I' → zS (zOwn B K (B + n)) D B n K I R s.heap H locs → lv_has ls 4 [(0, .ref (B + a0)), (1, .int x1)] → W p l e ({ frames := 2, cells := 0, slots := 0, locals := 61 } : Room) s m args below meth c H locs 0 0 (MQ below (zQv D (zOwn B K (B + n)) B n K I' R) args s 0 0 (zOwn B K (B + n))) (F0 m 56 ls [])) {kself : zI → Int32 → Int32 → Int32 → Option (zI)} (hkself : ∀ (I : zI) (x1 : Int32) (x2 : Int32) (x3 : Int32) (H : Heap) (locs : List Loc) (ls : Array Slot), kself I x1 x2 x3 = some I' → zS (zOwn B K (B + n)) D B n K I R s.heap H locs → lv_has ls 4 [(0, .ref (B + a0)), (1, .int x1), (2, .int x2), (3, .int x3)] → W p l e ({ frames := 2, cells := 0, slots := 0, locals := 61 } : Room) s m args below meth c H locs 0 0 (MQ below (zQv D (zOwn B K (B + n)) B n K I' R) args s 0 0 (zOwn B K (B + n))) (F0 m 74 ls [])) {x1 : Int32} {x2 : Int32} {x3 : Int32} (hf : g_X5_settle_74 F K R a0 k56 kself I x1 x2 x3 = some I') (hW : zS (zOwn B K (B + n)) D B n K I R s.heap H locs) (hl : lv_has ls 4 [(0, .ref (B + a0)), (1, .int x1), (2, .int x2), (3, .int x3)]) : W p l e ({ frames := 2, cells := 0, slots := 0, locals := 61 } : Room) s m args below meth c H locs 0 0 (MQ below (zQv D (zOwn B K (B + n)) B n K I' R) args s 0 0 (zOwn B K (B + n))) (F0 m 74 ls []) := by
  unfold g_X5_settle_74 at hf
  refine lv_iload_n X.1 X.2.1 dX5_settle_74 rfl (lv_at hl 3 rfl) ?_
  refine lv_if_le (tgt := 113) X.1 X.2.1 dX5_settle_75 (by decide) (fun c4 => ?_) (fun c4 => ?_)
  · replace hf := zif_pos c4 hf
    refine ze_iinc (lv' := [(1, .int (x1 + (1 : Int32))), (0, .ref (B + a0)), (2, .int x2), (3, .int x3)]) (d := 1) X.1 X.2.1 dX5_settle_113 hl (k := 1) rfl (by decide) (by decide) rfl (fun ls hk => ?_)
    replace hl := hk
    refine lv_goto (tgt := 56) X.1 X.2.1 dX5_settle_116 (by decide) ?_
    exact hk56 _ _ _ _ _ hf hW (lv_sub hl [1, 0] rfl)
  · replace hf := zif_neg c4 hf
    refine lv_iload_n X.1 X.2.1 dX5_settle_78 rfl (lv_at hl 2 rfl) ?_
    refine lv_aload_n X.1 X.2.1 dX5_settle_79 rfl (lv_at hl 0 rfl) ?_
    refine ze_getI X 5 3 21 (RX5, TX5, 4) rfl hW hK0 rfl (by decide) kfl_X5_21 dX5_settle_80 ?_
    refine lv_icmp_ge (tgt := 99) X.1 X.2.1 dX5_settle_83 (by decide) (fun c5 => ?_) (fun c5 => ?_)
    · replace hf := zif_pos c5 hf
      exact w_X5_settle_99 X hr hlk hK0 hk56 hkself hf hW hl
    · replace hf := zif_neg c5 hf
      refine lv_aload_n X.1 X.2.1 dX5_settle_86 rfl (lv_at hl 0 rfl) ?_
      refine ze_gtR X 5 2 18 (RX5, TX5, 4) rfl hf hW hK0 rfl (by decide) kfl_X5_18 dX5_settle_87 (fun o6 hg => ?_)
      replace hf := hg
      refine lv_iload_n X.1 X.2.1 dX5_settle_90 rfl (lv_at hl 2 rfl) ?_
      refine lv_aload_n X.1 X.2.1 dX5_settle_91 rfl (lv_at hl 0 rfl) ?_
      refine lv_iload_n X.1 X.2.1 dX5_settle_92 rfl (lv_at hl 1 rfl) ?_
      obtain ⟨v7, h8, hg⟩ := zh_bd hf
      replace hf := hg
      refine ze_aftI0 (ze_runV (As := [.int x1]) (rest := [.int x2, zrf B o6]) X 5 42 (c_X5_depthOf l D B n hK0 h8) vX5_depthOf kml_X5_42 hW hK0 rfl rfl ⟨by decide, by decide⟩ rfl hl.1 rfl (by simp [zcat, zcat_i, zcat_r, zcat_l]) ⟨Nat.le_refl _, Nat.le_refl _⟩ dX5_settle_93) hW (fun H locs hV => ?_)
      replace hW := hV
      refine lv_iconst (v := 1) X.1 X.2.1 dX5_settle_96 (by decide) ?_
      refine lv_iadd X.1 X.2.1 dX5_settle_97 ?_
      obtain ⟨a9, rfl, k11, hg⟩ := zh_dr hf
      replace hf := hg
      refine ze_iast X hf hW k11 dX5_settle_98 (fun I12 H locs hg hV => ?_)
      replace hf := hg
      replace hW := hV
      exact w_X5_settle_99 X hr hlk hK0 hk56 hkself hf hW hl
set_option maxRecDepth 100000 in
set_option maxHeartbeats 4000000 in
theorem w_X5_settle_74 {F : Nat} {a0 : Nat} {k56 : zI → Int32 → Option (zI)} (X : zX p s m c cX5_settle 4 RX5 D) (hr : meth.sig.returnType = none) (hlk : meth.locks = false) (hK0 : (K a0).1 = 15) (hk56 : ∀ (I : zI) (x1 : Int32) (H : Heap) (locs : List Loc) (ls : Array Slot), k56 I x1 = some I' → zS (zOwn B K (B + n)) D B n K I R s.heap H locs → lv_has ls 4 [(0, .ref (B + a0)), (1, .int x1)] → W p l e ({ frames := 2, cells := 0, slots := 0, locals := 61 } : Room) s m args below meth c H locs 0 0 (MQ below (zQv D (zOwn B K (B + n)) B n K I' R) args s 0 0 (zOwn B K (B + n))) (F0 m 56 ls [])) {t : Nat} {x1 : Int32} {x2 : Int32} {x3 : Int32} (hf : f_X5_settle_74 F K R a0 k56 t I x1 x2 x3 = some I') (hW : zS (zOwn B K (B + n)) D B n K I R s.heap H locs) (hl : lv_has ls 4 [(0, .ref (B + a0)), (1, .int x1), (2, .int x2), (3, .int x3)]) : W p l e ({ frames := 2, cells := 0, slots := 0, locals := 61 } : Room) s m args below meth c H locs 0 0 (MQ below (zQv D (zOwn B K (B + n)) B n K I' R) args s 0 0 (zOwn B K (B + n))) (F0 m 74 ls []) := by
  have key : ∀ t : Nat, ∀ (I : zI) (x1 : Int32) (x2 : Int32) (x3 : Int32) (H : Heap) (locs : List Loc) (ls : Array Slot), f_X5_settle_74 F K R a0 k56 t I x1 x2 x3 = some I' → zS (zOwn B K (B + n)) D B n K I R s.heap H locs → lv_has ls 4 [(0, .ref (B + a0)), (1, .int x1), (2, .int x2), (3, .int x3)] → W p l e ({ frames := 2, cells := 0, slots := 0, locals := 61 } : Room) s m args below meth c H locs 0 0 (MQ below (zQv D (zOwn B K (B + n)) B n K I' R) args s 0 0 (zOwn B K (B + n))) (F0 m 74 ls []) := by
    intro t
    induction t with
    | zero =>
      intro I x1 x2 x3 H locs ls hf hW hl
      cases hf
    | succ t ih =>
      intro I x1 x2 x3 H locs ls hf hW hl
      exact wg_X5_settle_74 X hr hlk hK0 hk56 ih hf hW hl
  exact key t _ _ _ _ _ _ _ hf hW hl
set_option maxRecDepth 100000 in
set_option maxHeartbeats 4000000 in
theorem wg_X5_settle_56 {F : Nat} {a0 : Nat}  (X : zX p s m c cX5_settle 4 RX5 D) (hr : meth.sig.returnType = none) (hlk : meth.locks = false) (hK0 : (K a0).1 = 15)  {kself : zI → Int32 → Option (zI)} (hkself : ∀ (I : zI) (x1 : Int32) (H : Heap) (locs : List Loc) (ls : Array Slot), kself I x1 = some I' → zS (zOwn B K (B + n)) D B n K I R s.heap H locs → lv_has ls 4 [(0, .ref (B + a0)), (1, .int x1)] → W p l e ({ frames := 2, cells := 0, slots := 0, locals := 61 } : Room) s m args below meth c H locs 0 0 (MQ below (zQv D (zOwn B K (B + n)) B n K I' R) args s 0 0 (zOwn B K (B + n))) (F0 m 56 ls [])) {x1 : Int32} (hf : g_X5_settle_56 F K R a0  kself I x1 = some I') (hW : zS (zOwn B K (B + n)) D B n K I R s.heap H locs) (hl : lv_has ls 4 [(0, .ref (B + a0)), (1, .int x1)]) : W p l e ({ frames := 2, cells := 0, slots := 0, locals := 61 } : Room) s m args below meth c H locs 0 0 (MQ below (zQv D (zOwn B K (B + n)) B n K I' R) args s 0 0 (zOwn B K (B + n))) (F0 m 56 ls []) := by
  unfold g_X5_settle_56 at hf
  refine lv_iload_n X.1 X.2.1 dX5_settle_56 rfl (lv_at hl 1 rfl) ?_
  refine lv_aload_n X.1 X.2.1 dX5_settle_57 rfl (lv_at hl 0 rfl) ?_
  refine ze_getI X 5 3 21 (RX5, TX5, 4) rfl hW hK0 rfl (by decide) kfl_X5_21 dX5_settle_58 ?_
  refine lv_icmp_ge (tgt := 119) X.1 X.2.1 dX5_settle_61 (by decide) (fun c13 => ?_) (fun c13 => ?_)
  · replace hf := zif_pos c13 hf
    obtain rfl := zi1 hf
    exact ze_retV X hr hlk hW (Nat.le_refl _) (Nat.le_refl _) dX5_settle_119
  · replace hf := zif_neg c13 hf
    refine lv_iload_n X.1 X.2.1 dX5_settle_64 rfl (lv_at hl 1 rfl) ?_
    refine lv_iconst (v := 1) X.1 X.2.1 dX5_settle_65 (by decide) ?_
    refine lv_iadd X.1 X.2.1 dX5_settle_66 ?_
    refine ze_nm hf (fun v14 hg => ?_)
    replace hf := hg
    refine lv_istore_n (i := 2) (lv' := [(2, .int v14), (0, .ref (B + a0)), (1, .int x1)]) X.1 X.2.1 dX5_settle_67 rfl hl (by decide) rfl (fun ls hk => ?_)
    replace hl := hk
    refine lv_aload_n X.1 X.2.1 dX5_settle_68 rfl (lv_at hl 1 rfl) ?_
    refine lv_iload_n X.1 X.2.1 dX5_settle_69 rfl (lv_at hl 2 rfl) ?_
    obtain ⟨v15, h16, hg⟩ := zh_bd hf
    replace hf := hg
    refine ze_aftI0 (ze_runV (As := [.int x1]) (rest := []) X 5 33 (c_X5_argumentsOf l D B n hK0 h16) vX5_argumentsOf kml_X5_33 hW hK0 rfl rfl ⟨by decide, by decide⟩ rfl hl.1 rfl (Nat.le_of_ble_eq_true rfl) ⟨Nat.le_refl _, Nat.le_refl _⟩ dX5_settle_70) hW (fun H locs hV => ?_)
    replace hW := hV
    refine lv_istore_n (i := 3) (lv' := [(3, .int v15), (2, .int v14), (0, .ref (B + a0)), (1, .int x1)]) X.1 X.2.1 dX5_settle_73 rfl hl (by decide) rfl (fun ls hk => ?_)
    replace hl := hk
    exact w_X5_settle_74 X hr hlk hK0 hkself hf hW (lv_sub hl [2, 3, 1, 0] rfl)
set_option maxRecDepth 100000 in
set_option maxHeartbeats 4000000 in
theorem w_X5_settle_56 {F : Nat} {a0 : Nat}  (X : zX p s m c cX5_settle 4 RX5 D) (hr : meth.sig.returnType = none) (hlk : meth.locks = false) (hK0 : (K a0).1 = 15)  {t : Nat} {x1 : Int32} (hf : f_X5_settle_56 F K R a0  t I x1 = some I') (hW : zS (zOwn B K (B + n)) D B n K I R s.heap H locs) (hl : lv_has ls 4 [(0, .ref (B + a0)), (1, .int x1)]) : W p l e ({ frames := 2, cells := 0, slots := 0, locals := 61 } : Room) s m args below meth c H locs 0 0 (MQ below (zQv D (zOwn B K (B + n)) B n K I' R) args s 0 0 (zOwn B K (B + n))) (F0 m 56 ls []) := by
  have key : ∀ t : Nat, ∀ (I : zI) (x1 : Int32) (H : Heap) (locs : List Loc) (ls : Array Slot), f_X5_settle_56 F K R a0  t I x1 = some I' → zS (zOwn B K (B + n)) D B n K I R s.heap H locs → lv_has ls 4 [(0, .ref (B + a0)), (1, .int x1)] → W p l e ({ frames := 2, cells := 0, slots := 0, locals := 61 } : Room) s m args below meth c H locs 0 0 (MQ below (zQv D (zOwn B K (B + n)) B n K I' R) args s 0 0 (zOwn B K (B + n))) (F0 m 56 ls []) := by
    intro t
    induction t with
    | zero =>
      intro I x1 H locs ls hf hW hl
      cases hf
    | succ t ih =>
      intro I x1 H locs ls hf hW hl
      exact wg_X5_settle_56 X hr hlk hK0  ih hf hW hl
  exact key t _ _ _ _ _ hf hW hl
set_option maxRecDepth 100000 in
set_option maxHeartbeats 4000000 in
theorem wg_X5_settle_21 {F : Nat} {a0 : Nat} {k7 : zI → Int32 → Option (zI)} (X : zX p s m c cX5_settle 4 RX5 D) (hr : meth.sig.returnType = none) (hlk : meth.locks = false) (hK0 : (K a0).1 = 15) (hk7 : ∀ (I : zI) (x1 : Int32) (H : Heap) (locs : List Loc) (ls : Array Slot), k7 I x1 = some I' → zS (zOwn B K (B + n)) D B n K I R s.heap H locs → lv_has ls 4 [(0, .ref (B + a0)), (1, .int x1)] → W p l e ({ frames := 2, cells := 0, slots := 0, locals := 61 } : Room) s m args below meth c H locs 0 0 (MQ below (zQv D (zOwn B K (B + n)) B n K I' R) args s 0 0 (zOwn B K (B + n))) (F0 m 7 ls [])) {kself : zI → Int32 → Int32 → Int32 → Option (zI)} (hkself : ∀ (I : zI) (x1 : Int32) (x2 : Int32) (x3 : Int32) (H : Heap) (locs : List Loc) (ls : Array Slot), kself I x1 x2 x3 = some I' → zS (zOwn B K (B + n)) D B n K I R s.heap H locs → lv_has ls 4 [(0, .ref (B + a0)), (1, .int x1), (2, .int x2), (3, .int x3)] → W p l e ({ frames := 2, cells := 0, slots := 0, locals := 61 } : Room) s m args below meth c H locs 0 0 (MQ below (zQv D (zOwn B K (B + n)) B n K I' R) args s 0 0 (zOwn B K (B + n))) (F0 m 21 ls [])) {x1 : Int32} {x2 : Int32} {x3 : Int32} (hf : g_X5_settle_21 F K R a0 k7 kself I x1 x2 x3 = some I') (hW : zS (zOwn B K (B + n)) D B n K I R s.heap H locs) (hl : lv_has ls 4 [(0, .ref (B + a0)), (1, .int x1), (2, .int x2), (3, .int x3)]) : W p l e ({ frames := 2, cells := 0, slots := 0, locals := 61 } : Room) s m args below meth c H locs 0 0 (MQ below (zQv D (zOwn B K (B + n)) B n K I' R) args s 0 0 (zOwn B K (B + n))) (F0 m 21 ls []) := by
  unfold g_X5_settle_21 at hf
  refine lv_iload_n X.1 X.2.1 dX5_settle_21 rfl (lv_at hl 3 rfl) ?_
  refine lv_if_le (tgt := 39) X.1 X.2.1 dX5_settle_22 (by decide) (fun c17 => ?_) (fun c17 => ?_)
  · replace hf := zif_pos c17 hf
    refine lv_aload_n X.1 X.2.1 dX5_settle_39 rfl (lv_at hl 0 rfl) ?_
    refine ze_gtR X 5 1 15 (RX5, TX5, 4) rfl hf hW hK0 rfl (by decide) kfl_X5_15 dX5_settle_40 (fun o18 hg => ?_)
    replace hf := hg
    refine lv_iload_n X.1 X.2.1 dX5_settle_43 rfl (lv_at hl 1 rfl) ?_
    refine lv_iload_n X.1 X.2.1 dX5_settle_44 rfl (lv_at hl 2 rfl) ?_
    refine lv_iload_n X.1 X.2.1 dX5_settle_45 rfl (lv_at hl 1 rfl) ?_
    refine lv_isub X.1 X.2.1 dX5_settle_46 ?_
    obtain ⟨a19, rfl, k21, hg⟩ := zh_dr hf
    replace hf := hg
    refine ze_iast X hf hW k21 dX5_settle_47 (fun I22 H locs hg hV => ?_)
    replace hf := hg
    replace hW := hV
    refine ze_iinc (lv' := [(1, .int (x1 + (-1 : Int32))), (0, .ref (B + a0)), (2, .int x2), (3, .int x3)]) (d := -1) X.1 X.2.1 dX5_settle_48 hl (k := 1) rfl (by decide) (by decide) rfl (fun ls hk => ?_)
    replace hl := hk
    refine lv_goto (tgt := 7) X.1 X.2.1 dX5_settle_51 (by decide) ?_
    exact hk7 _ _ _ _ _ hf hW (lv_sub hl [1, 0] rfl)
  · replace hf := zif_neg c17 hf
    refine lv_iload_n X.1 X.2.1 dX5_settle_25 rfl (lv_at hl 2 rfl) ?_
    refine lv_aload_n X.1 X.2.1 dX5_settle_26 rfl (lv_at hl 0 rfl) ?_
    refine lv_iload_n X.1 X.2.1 dX5_settle_27 rfl (lv_at hl 2 rfl) ?_
    obtain ⟨v23, h24, hg⟩ := zh_bd hf
    replace hf := hg
    refine ze_aftI0 (ze_runV (As := [.int x2]) (rest := [.int x2]) X 5 39 (c_X5_spanOf l D B n hK0 h24) vX5_spanOf kml_X5_39 hW hK0 rfl rfl ⟨by decide, by decide⟩ rfl hl.1 rfl (Nat.le_of_ble_eq_true rfl) ⟨Nat.le_refl _, Nat.le_refl _⟩ dX5_settle_28) hW (fun H locs hV => ?_)
    replace hW := hV
    refine lv_iadd X.1 X.2.1 dX5_settle_31 ?_
    refine ze_nm hf (fun v25 hg => ?_)
    replace hf := hg
    refine lv_istore_n (i := 2) (lv' := [(2, .int v25), (0, .ref (B + a0)), (1, .int x1), (3, .int x3)]) X.1 X.2.1 dX5_settle_32 rfl hl (by decide) rfl (fun ls hk => ?_)
    replace hl := hk
    refine ze_iinc (lv' := [(3, .int (x3 + (-1 : Int32))), (2, .int v25), (0, .ref (B + a0)), (1, .int x1)]) (d := -1) X.1 X.2.1 dX5_settle_33 hl (k := 3) rfl (by decide) (by decide) rfl (fun ls hk => ?_)
    replace hl := hk
    refine lv_goto (tgt := 21) X.1 X.2.1 dX5_settle_36 (by decide) ?_
    exact hkself _ _ _ _ _ _ _ hf hW (lv_sub hl [2, 3, 1, 0] rfl)
set_option maxRecDepth 100000 in
set_option maxHeartbeats 4000000 in
theorem w_X5_settle_21 {F : Nat} {a0 : Nat} {k7 : zI → Int32 → Option (zI)} (X : zX p s m c cX5_settle 4 RX5 D) (hr : meth.sig.returnType = none) (hlk : meth.locks = false) (hK0 : (K a0).1 = 15) (hk7 : ∀ (I : zI) (x1 : Int32) (H : Heap) (locs : List Loc) (ls : Array Slot), k7 I x1 = some I' → zS (zOwn B K (B + n)) D B n K I R s.heap H locs → lv_has ls 4 [(0, .ref (B + a0)), (1, .int x1)] → W p l e ({ frames := 2, cells := 0, slots := 0, locals := 61 } : Room) s m args below meth c H locs 0 0 (MQ below (zQv D (zOwn B K (B + n)) B n K I' R) args s 0 0 (zOwn B K (B + n))) (F0 m 7 ls [])) {t : Nat} {x1 : Int32} {x2 : Int32} {x3 : Int32} (hf : f_X5_settle_21 F K R a0 k7 t I x1 x2 x3 = some I') (hW : zS (zOwn B K (B + n)) D B n K I R s.heap H locs) (hl : lv_has ls 4 [(0, .ref (B + a0)), (1, .int x1), (2, .int x2), (3, .int x3)]) : W p l e ({ frames := 2, cells := 0, slots := 0, locals := 61 } : Room) s m args below meth c H locs 0 0 (MQ below (zQv D (zOwn B K (B + n)) B n K I' R) args s 0 0 (zOwn B K (B + n))) (F0 m 21 ls []) := by
  have key : ∀ t : Nat, ∀ (I : zI) (x1 : Int32) (x2 : Int32) (x3 : Int32) (H : Heap) (locs : List Loc) (ls : Array Slot), f_X5_settle_21 F K R a0 k7 t I x1 x2 x3 = some I' → zS (zOwn B K (B + n)) D B n K I R s.heap H locs → lv_has ls 4 [(0, .ref (B + a0)), (1, .int x1), (2, .int x2), (3, .int x3)] → W p l e ({ frames := 2, cells := 0, slots := 0, locals := 61 } : Room) s m args below meth c H locs 0 0 (MQ below (zQv D (zOwn B K (B + n)) B n K I' R) args s 0 0 (zOwn B K (B + n))) (F0 m 21 ls []) := by
    intro t
    induction t with
    | zero =>
      intro I x1 x2 x3 H locs ls hf hW hl
      cases hf
    | succ t ih =>
      intro I x1 x2 x3 H locs ls hf hW hl
      exact wg_X5_settle_21 X hr hlk hK0 hk7 ih hf hW hl
  exact key t _ _ _ _ _ _ _ hf hW hl
set_option maxRecDepth 100000 in
set_option maxHeartbeats 4000000 in
theorem wg_X5_settle_7 {F : Nat} {a0 : Nat}  (X : zX p s m c cX5_settle 4 RX5 D) (hr : meth.sig.returnType = none) (hlk : meth.locks = false) (hK0 : (K a0).1 = 15)  {kself : zI → Int32 → Option (zI)} (hkself : ∀ (I : zI) (x1 : Int32) (H : Heap) (locs : List Loc) (ls : Array Slot), kself I x1 = some I' → zS (zOwn B K (B + n)) D B n K I R s.heap H locs → lv_has ls 4 [(0, .ref (B + a0)), (1, .int x1)] → W p l e ({ frames := 2, cells := 0, slots := 0, locals := 61 } : Room) s m args below meth c H locs 0 0 (MQ below (zQv D (zOwn B K (B + n)) B n K I' R) args s 0 0 (zOwn B K (B + n))) (F0 m 7 ls [])) {x1 : Int32} (hf : g_X5_settle_7 F K R a0  kself I x1 = some I') (hW : zS (zOwn B K (B + n)) D B n K I R s.heap H locs) (hl : lv_has ls 4 [(0, .ref (B + a0)), (1, .int x1)]) : W p l e ({ frames := 2, cells := 0, slots := 0, locals := 61 } : Room) s m args below meth c H locs 0 0 (MQ below (zQv D (zOwn B K (B + n)) B n K I' R) args s 0 0 (zOwn B K (B + n))) (F0 m 7 ls []) := by
  unfold g_X5_settle_7 at hf
  refine lv_iload_n X.1 X.2.1 dX5_settle_7 rfl (lv_at hl 1 rfl) ?_
  refine lv_if_lt (tgt := 54) X.1 X.2.1 dX5_settle_8 (by decide) (fun c26 => ?_) (fun c26 => ?_)
  · replace hf := zif_pos c26 hf
    refine lv_iconst (v := 0) X.1 X.2.1 dX5_settle_54 (by decide) ?_
    refine lv_istore_n (i := 1) (lv' := [(1, .int (0 : Int32)), (0, .ref (B + a0))]) X.1 X.2.1 dX5_settle_55 rfl hl (by decide) rfl (fun ls hk => ?_)
    replace hl := hk
    exact w_X5_settle_56 X hr hlk hK0 hf hW (lv_sub hl [1, 0] rfl)
  · replace hf := zif_neg c26 hf
    refine lv_iload_n X.1 X.2.1 dX5_settle_11 rfl (lv_at hl 1 rfl) ?_
    refine lv_iconst (v := 1) X.1 X.2.1 dX5_settle_12 (by decide) ?_
    refine lv_iadd X.1 X.2.1 dX5_settle_13 ?_
    refine ze_nm hf (fun v27 hg => ?_)
    replace hf := hg
    refine lv_istore_n (i := 2) (lv' := [(2, .int v27), (0, .ref (B + a0)), (1, .int x1)]) X.1 X.2.1 dX5_settle_14 rfl hl (by decide) rfl (fun ls hk => ?_)
    replace hl := hk
    refine lv_aload_n X.1 X.2.1 dX5_settle_15 rfl (lv_at hl 1 rfl) ?_
    refine lv_iload_n X.1 X.2.1 dX5_settle_16 rfl (lv_at hl 2 rfl) ?_
    obtain ⟨v28, h29, hg⟩ := zh_bd hf
    replace hf := hg
    refine ze_aftI0 (ze_runV (As := [.int x1]) (rest := []) X 5 33 (c_X5_argumentsOf l D B n hK0 h29) vX5_argumentsOf kml_X5_33 hW hK0 rfl rfl ⟨by decide, by decide⟩ rfl hl.1 rfl (Nat.le_of_ble_eq_true rfl) ⟨Nat.le_refl _, Nat.le_refl _⟩ dX5_settle_17) hW (fun H locs hV => ?_)
    replace hW := hV
    refine lv_istore_n (i := 3) (lv' := [(3, .int v28), (2, .int v27), (0, .ref (B + a0)), (1, .int x1)]) X.1 X.2.1 dX5_settle_20 rfl hl (by decide) rfl (fun ls hk => ?_)
    replace hl := hk
    exact w_X5_settle_21 X hr hlk hK0 hkself hf hW (lv_sub hl [2, 3, 1, 0] rfl)
set_option maxRecDepth 100000 in
set_option maxHeartbeats 4000000 in
theorem w_X5_settle_7 {F : Nat} {a0 : Nat}  (X : zX p s m c cX5_settle 4 RX5 D) (hr : meth.sig.returnType = none) (hlk : meth.locks = false) (hK0 : (K a0).1 = 15)  {t : Nat} {x1 : Int32} (hf : f_X5_settle_7 F K R a0  t I x1 = some I') (hW : zS (zOwn B K (B + n)) D B n K I R s.heap H locs) (hl : lv_has ls 4 [(0, .ref (B + a0)), (1, .int x1)]) : W p l e ({ frames := 2, cells := 0, slots := 0, locals := 61 } : Room) s m args below meth c H locs 0 0 (MQ below (zQv D (zOwn B K (B + n)) B n K I' R) args s 0 0 (zOwn B K (B + n))) (F0 m 7 ls []) := by
  have key : ∀ t : Nat, ∀ (I : zI) (x1 : Int32) (H : Heap) (locs : List Loc) (ls : Array Slot), f_X5_settle_7 F K R a0  t I x1 = some I' → zS (zOwn B K (B + n)) D B n K I R s.heap H locs → lv_has ls 4 [(0, .ref (B + a0)), (1, .int x1)] → W p l e ({ frames := 2, cells := 0, slots := 0, locals := 61 } : Room) s m args below meth c H locs 0 0 (MQ below (zQv D (zOwn B K (B + n)) B n K I' R) args s 0 0 (zOwn B K (B + n))) (F0 m 7 ls []) := by
    intro t
    induction t with
    | zero =>
      intro I x1 H locs ls hf hW hl
      cases hf
    | succ t ih =>
      intro I x1 H locs ls hf hW hl
      exact wg_X5_settle_7 X hr hlk hK0  ih hf hW hl
  exact key t _ _ _ _ _ hf hW hl
set_option maxRecDepth 100000 in
set_option maxHeartbeats 4000000 in
theorem c_X5_settle (l : Launch) (D : zD) (B n : Nat) {F : Nat} {K : zK} {I : zI} {R : zR} {a0 : Nat}  {I' : zI} (hK0 : (K a0).1 = 15) (hf : f_X5_settle F K I R a0  = some I') : zM l yX5_settle cX5_settle 4 (none) ({ frames := 2, cells := 0, slots := 0, locals := 61 } : Room) D B n K I R [.ref (B + a0)] (zQv D (zOwn B K (B + n)) B n K I' R) := by
  refine ze_entry (lv0 := [(0, .ref (B + a0))]) (by decide) (by simp [lg_sl, zcat, zcat_i, zcat_r, zcat_l]) (by simp [lv_args, zcat, zcat_i, zcat_r, zcat_l]) (fun p e s m below meth c X hr hlk hin hW ls hl => ?_)
  unfold f_X5_settle at hf
  refine lv_aload_n X.1 X.2.1 dX5_settle_0 rfl (lv_at hl 0 rfl) ?_
  refine ze_getI X 5 3 21 (RX5, TX5, 4) rfl hW hK0 rfl (by decide) kfl_X5_21 dX5_settle_1 ?_
  refine lv_iconst (v := 1) X.1 X.2.1 dX5_settle_4 (by decide) ?_
  refine lv_isub X.1 X.2.1 dX5_settle_5 ?_
  refine ze_nm hf (fun v30 hg => ?_)
  replace hf := hg
  refine lv_istore_n (i := 1) (lv' := [(1, .int v30), (0, .ref (B + a0))]) X.1 X.2.1 dX5_settle_6 rfl hl (by decide) rfl (fun ls hk => ?_)
  replace hl := hk
  exact w_X5_settle_7 X hr hlk hK0 hf hW (lv_sub hl [1, 0] rfl)
end

/-! LeastPatterns$Reader.ends()Z -/
def f_X2_ends (F : Nat) (K : zK) (I : zI) (R : zR) (a0 : Nat)  : Option (Int32 × zI) :=
  if (I a0 1) ≤ (I a0 2) then
    zbd (some (R a0 4)) fun o2 =>
    zbd (zdr K o2 15) fun a3 =>
    zbd (f_X5_settle F K I R a3) fun I6 =>
    some ((1 : Int32), I6)
  else
    zbd2 (f_X2_faulty F K I R a0 (1 : Int32)) fun v8 I9 =>
    if v8 = 0 ∨ v8 = 1 then
    some (v8, I9)
    else
    none
section
variable {p : Program} {l : Launch} {e : Env} {s : State} {m : MethodId} {args : Array Value} {below : List Frame} {meth : Method} {c : Code} {D : zD} {B n n0 n' fd ld : Nat} {K K0 K' : zK} {I I' : zI} {R R' : zR} {H : Heap} {locs : List Loc} {ls : Array Slot} {r : Int32}
set_option maxRecDepth 100000 in
set_option maxHeartbeats 4000000 in
theorem c_X2_ends (l : Launch) (D : zD) (B n : Nat) {F : Nat} {K : zK} {I : zI} {R : zR} {a0 : Nat}  {r : Int32} {I' : zI} (hK0 : (K a0).1 = 12) (hf : f_X2_ends F K I R a0  = some (r, I')) : zM l yX2_ends cX2_ends 1 (some .boolean) ({ frames := 3, cells := 0, slots := 0, locals := 84 } : Room) D B n K I R [.ref (B + a0)] (zQi D (zOwn B K (B + n)) r B n K I' R) := by
  refine ze_entry (lv0 := [(0, .ref (B + a0))]) (by decide) (by simp [lg_sl, zcat, zcat_i, zcat_r, zcat_l]) (by simp [lv_args, zcat, zcat_i, zcat_r, zcat_l]) (fun p e s m below meth c X hr hlk hin hW ls hl => ?_)
  unfold f_X2_ends at hf
  refine lv_aload_n X.1 X.2.1 dX2_ends_0 rfl (lv_at hl 0 rfl) ?_
  refine ze_getI X 2 2 19 (RX2, TX2, 9) rfl hW hK0 rfl (by decide) kfl_X2_19 dX2_ends_1 ?_
  refine lv_aload_n X.1 X.2.1 dX2_ends_4 rfl (lv_at hl 0 rfl) ?_
  refine ze_getI X 2 1 15 (RX2, TX2, 9) rfl hW hK0 rfl (by decide) kfl_X2_15 dX2_ends_5 ?_
  refine lv_icmp_ge (tgt := 17) X.1 X.2.1 dX2_ends_8 (by decide) (fun c1 => ?_) (fun c1 => ?_)
  · replace hf := zif_pos c1 hf
    refine lv_aload_n X.1 X.2.1 dX2_ends_17 rfl (lv_at hl 0 rfl) ?_
    refine ze_gtR X 2 4 28 (RX2, TX2, 9) rfl hf hW hK0 rfl (by decide) kfl_X2_28 dX2_ends_18 (fun o2 hg => ?_)
    replace hf := hg
    obtain ⟨a3, rfl, k5, hg⟩ := zh_dr hf
    replace hf := hg
    obtain ⟨I6, h7, hg⟩ := zh_bd hf
    replace hf := hg
    refine ze_aftV0 (ze_runV (As := []) (rest := []) X 5 95 (c_X5_settle l D B n k5 h7) vX5_settle kml_X2_95 hW k5 rfl rfl ⟨by decide, by decide⟩ rfl hl.1 rfl (Nat.le_of_ble_eq_true rfl) ⟨Nat.le_refl _, Nat.le_refl _⟩ dX2_ends_21) hW (fun H locs hV => ?_)
    replace hW := hV
    refine lv_iconst (v := 1) X.1 X.2.1 dX2_ends_24 (by decide) ?_
    obtain ⟨rfl, rfl⟩ := zi2 hf
    exact ze_retZ X hr hlk (by decide) hW (Nat.le_refl _) (Nat.le_refl _) dX2_ends_25
  · replace hf := zif_neg c1 hf
    refine lv_aload_n X.1 X.2.1 dX2_ends_11 rfl (lv_at hl 0 rfl) ?_
    refine lv_iconst (v := 1) X.1 X.2.1 dX2_ends_12 (by decide) ?_
    obtain ⟨v8, I9, h10, hg⟩ := zh_bd2 hf
    replace hf := hg
    refine ze_aftI0 (ze_runV (As := [.int (1 : Int32)]) (rest := []) X 2 65 (c_X2_faulty l D B n hK0 h10) vX2_faulty kml_X2_65 hW hK0 rfl rfl ⟨by decide, by decide⟩ rfl hl.1 rfl (Nat.le_of_ble_eq_true rfl) ⟨Nat.le_refl _, Nat.le_refl _⟩ dX2_ends_13) hW (fun H locs hV => ?_)
    replace hW := hV
    obtain ⟨hv11, hg⟩ := zh_if hf
    replace hf := hg
    obtain ⟨rfl, rfl⟩ := zi2 hf
    exact ze_retZ X hr hlk hv11 hW (Nat.le_refl _) (Nat.le_refl _) dX2_ends_16
end

/-! LeastPatterns$Term.sortOf(I)I -/
def f_X5_sortOf (F : Nat) (K : zK) (I : zI) (R : zR) (a0 : Nat) (x1 : Int32) : Option (Int32) :=
  if x1 < (0 : Int32) then
    some (-1 : Int32)
  else
    if (I a0 3) ≤ x1 then
      some (-1 : Int32)
    else
      zbd (some (R a0 0)) fun o3 =>
      zbd (zdr K o3 1) fun a4 =>
      zbd (zrd K I a4 x1) fun v7 =>
      some (v7 >>> ((8 : Int32) &&& 31))
section
variable {p : Program} {l : Launch} {e : Env} {s : State} {m : MethodId} {args : Array Value} {below : List Frame} {meth : Method} {c : Code} {D : zD} {B n n0 n' fd ld : Nat} {K K0 K' : zK} {I I' : zI} {R R' : zR} {H : Heap} {locs : List Loc} {ls : Array Slot} {r : Int32}
set_option maxRecDepth 100000 in
set_option maxHeartbeats 4000000 in
theorem c_X5_sortOf (l : Launch) (D : zD) (B n : Nat) {F : Nat} {K : zK} {I : zI} {R : zR} {a0 : Nat} {x1 : Int32} {r : Int32} (hK0 : (K a0).1 = 15) (hf : f_X5_sortOf F K I R a0 x1 = some r) : zM l yX5_sortOf cX5_sortOf 2 (some .int) ({ frames := 1, cells := 0, slots := 0, locals := 40 } : Room) D B n K I R [.ref (B + a0), .int x1] (zQi D (zOwn B K (B + n)) r B n K I R) := by
  refine ze_entry (lv0 := [(0, .ref (B + a0)), (1, .int x1)]) (by decide) (by simp [lg_sl, zcat, zcat_i, zcat_r, zcat_l]) (by simp [lv_args, zcat, zcat_i, zcat_r, zcat_l]) (fun p e s m below meth c X hr hlk hin hW ls hl => ?_)
  unfold f_X5_sortOf at hf
  refine lv_iload_n X.1 X.2.1 dX5_sortOf_0 rfl (lv_at hl 1 rfl) ?_
  refine lv_if_lt (tgt := 24) X.1 X.2.1 dX5_sortOf_1 (by decide) (fun c1 => ?_) (fun c1 => ?_)
  · replace hf := zif_pos c1 hf
    refine lv_iconst (v := -1) X.1 X.2.1 dX5_sortOf_24 (by decide) ?_
    obtain rfl := zi1 hf
    exact ze_retI X hr hlk hW (Nat.le_refl _) (Nat.le_refl _) dX5_sortOf_25
  · replace hf := zif_neg c1 hf
    refine lv_iload_n X.1 X.2.1 dX5_sortOf_4 rfl (lv_at hl 1 rfl) ?_
    refine lv_aload_n X.1 X.2.1 dX5_sortOf_5 rfl (lv_at hl 0 rfl) ?_
    refine ze_getI X 5 3 21 (RX5, TX5, 4) rfl hW hK0 rfl (by decide) kfl_X5_21 dX5_sortOf_6 ?_
    refine lv_icmp_ge (tgt := 24) X.1 X.2.1 dX5_sortOf_9 (by decide) (fun c2 => ?_) (fun c2 => ?_)
    · replace hf := zif_pos c2 hf
      refine lv_iconst (v := -1) X.1 X.2.1 dX5_sortOf_24 (by decide) ?_
      obtain rfl := zi1 hf
      exact ze_retI X hr hlk hW (Nat.le_refl _) (Nat.le_refl _) dX5_sortOf_25
    · replace hf := zif_neg c2 hf
      refine lv_aload_n X.1 X.2.1 dX5_sortOf_12 rfl (lv_at hl 0 rfl) ?_
      refine ze_gtR X 5 0 9 (RX5, TX5, 4) rfl hf hW hK0 rfl (by decide) kfl_X5_9 dX5_sortOf_13 (fun o3 hg => ?_)
      replace hf := hg
      refine lv_iload_n X.1 X.2.1 dX5_sortOf_16 rfl (lv_at hl 1 rfl) ?_
      obtain ⟨a4, rfl, k6, hg⟩ := zh_dr hf
      replace hf := hg
      refine ze_iald X hf hW k6 dX5_sortOf_17 (fun v7 hg => ?_)
      replace hf := hg
      refine lv_bipush (v := 8) X.1 X.2.1 dX5_sortOf_18 (by decide) ?_
      refine lv_ishr X.1 X.2.1 dX5_sortOf_20 ?_
      refine lv_goto (tgt := 25) X.1 X.2.1 dX5_sortOf_21 (by decide) ?_
      obtain rfl := zi1 hf
      exact ze_retI X hr hlk hW (Nat.le_refl _) (Nat.le_refl _) dX5_sortOf_25
end

/-! LeastPatterns$Reader.opens()Z -/
def f_X2_opens (F : Nat) (K : zK) (I : zI) (R : zR) (a0 : Nat)  : Option (Int32 × zI) :=
  zbd (f_X2_byteAt F K I R a0 (I a0 2)) fun v1 =>
  if v1 = (40 : Int32) then
    if (I a0 5) < (0 : Int32) then
      some ((0 : Int32), I)
    else
      zbd (some (R a0 6)) fun o5 =>
      zbd (zdr K o5 1) fun a6 =>
      if (zln K a6) ≤ (I a0 5) then
        some ((0 : Int32), I)
      else
        zbd (some (R a0 7)) fun o10 =>
        zbd (zdr K o10 2) fun a11 =>
        if (zln K a11) ≤ (I a0 5) then
          some ((0 : Int32), I)
        else
          zbd (some (R a0 4)) fun o15 =>
          zbd (some (R a0 4)) fun o16 =>
          zbd (zdr K o16 15) fun a17 =>
          zbd (zdr K o15 15) fun a20 =>
          zbd (f_X5_sortOf F K I R a20 ((I a17 3) - (1 : Int32))) fun v23 =>
          if v23 = (3 : Int32) then
            some ((0 : Int32), I)
          else
            zbd (some (R a0 6)) fun o26 =>
            zbd (some (R a0 4)) fun o27 =>
            zbd (zdr K o27 15) fun a28 =>
            zbd (zdr K o26 1) fun a31 =>
            zbd (zwr K I a31 (I a0 5) ((I a28 3) - (1 : Int32))) fun I34 =>
            zbd (some (R a0 7)) fun o35 =>
            zbd (zdr K o35 2) fun a36 =>
            zbd (zwrZ K I34 a36 (I34 a0 5) (0 : Int32)) fun I39 =>
            zbd (some (zup I39 a0 5 ((I39 a0 5) + (1 : Int32)))) fun I40 =>
            zbd (some (zup I40 a0 2 ((I40 a0 2) + (1 : Int32)))) fun I41 =>
            some ((1 : Int32), I41)
  else
    some ((0 : Int32), I)
section
variable {p : Program} {l : Launch} {e : Env} {s : State} {m : MethodId} {args : Array Value} {below : List Frame} {meth : Method} {c : Code} {D : zD} {B n n0 n' fd ld : Nat} {K K0 K' : zK} {I I' : zI} {R R' : zR} {H : Heap} {locs : List Loc} {ls : Array Slot} {r : Int32}
set_option maxRecDepth 100000 in
set_option maxHeartbeats 4000000 in
theorem c_X2_opens (l : Launch) (D : zD) (B n : Nat) {F : Nat} {K : zK} {I : zI} {R : zR} {a0 : Nat}  {r : Int32} {I' : zI} (hK0 : (K a0).1 = 12) (hf : f_X2_opens F K I R a0  = some (r, I')) : zM l yX2_opens cX2_opens 1 (some .boolean) ({ frames := 2, cells := 0, slots := 0, locals := 61 } : Room) D B n K I R [.ref (B + a0)] (zQi D (zOwn B K (B + n)) r B n K I' R) := by
  refine ze_entry (lv0 := [(0, .ref (B + a0))]) (by decide) (by simp [lg_sl, zcat, zcat_i, zcat_r, zcat_l]) (by simp [lv_args, zcat, zcat_i, zcat_r, zcat_l]) (fun p e s m below meth c X hr hlk hin hW ls hl => ?_)
  unfold f_X2_opens at hf
  refine lv_aload_n X.1 X.2.1 dX2_opens_0 rfl (lv_at hl 0 rfl) ?_
  refine lv_aload_n X.1 X.2.1 dX2_opens_1 rfl (lv_at hl 0 rfl) ?_
  refine ze_getI X 2 2 19 (RX2, TX2, 9) rfl hW hK0 rfl (by decide) kfl_X2_19 dX2_opens_2 ?_
  obtain ⟨v1, h2, hg⟩ := zh_bd hf
  replace hf := hg
  refine ze_aftI0 (ze_runV (As := [.int (I a0 2)]) (rest := []) X 2 61 (c_X2_byteAt l D B n hK0 h2) vX2_byteAt kml_X2_61 hW hK0 rfl rfl ⟨by decide, by decide⟩ rfl hl.1 rfl (Nat.le_of_ble_eq_true rfl) ⟨Nat.le_refl _, Nat.le_refl _⟩ dX2_opens_5) hW (fun H locs hV => ?_)
  replace hW := hV
  refine lv_bipush (v := 40) X.1 X.2.1 dX2_opens_8 (by decide) ?_
  refine lv_icmp_ne (tgt := 64) X.1 X.2.1 dX2_opens_10 (by decide) (fun c3 => ?_) (fun c3 => ?_)
  · replace hf := zif_neg c3 hf
    refine lv_iconst (v := 0) X.1 X.2.1 dX2_opens_64 (by decide) ?_
    obtain ⟨rfl, rfl⟩ := zi2 hf
    exact ze_retZ X hr hlk (by decide) hW (Nat.le_refl _) (Nat.le_refl _) dX2_opens_65
  · replace hf := zif_pos c3 hf
    refine lv_aload_n X.1 X.2.1 dX2_opens_13 rfl (lv_at hl 0 rfl) ?_
    refine ze_getI X 2 5 32 (RX2, TX2, 9) rfl hW hK0 rfl (by decide) kfl_X2_32 dX2_opens_14 ?_
    refine lv_if_lt (tgt := 64) X.1 X.2.1 dX2_opens_17 (by decide) (fun c4 => ?_) (fun c4 => ?_)
    · replace hf := zif_pos c4 hf
      refine lv_iconst (v := 0) X.1 X.2.1 dX2_opens_64 (by decide) ?_
      obtain ⟨rfl, rfl⟩ := zi2 hf
      exact ze_retZ X hr hlk (by decide) hW (Nat.le_refl _) (Nat.le_refl _) dX2_opens_65
    · replace hf := zif_neg c4 hf
      refine lv_aload_n X.1 X.2.1 dX2_opens_20 rfl (lv_at hl 0 rfl) ?_
      refine ze_getI X 2 5 32 (RX2, TX2, 9) rfl hW hK0 rfl (by decide) kfl_X2_32 dX2_opens_21 ?_
      refine lv_aload_n X.1 X.2.1 dX2_opens_24 rfl (lv_at hl 0 rfl) ?_
      refine ze_gtR X 2 6 35 (RX2, TX2, 9) rfl hf hW hK0 rfl (by decide) kfl_X2_35 dX2_opens_25 (fun o5 hg => ?_)
      replace hf := hg
      obtain ⟨a6, rfl, k8, hg⟩ := zh_dr hf
      replace hf := hg
      refine ze_alen X 1 (by decide) hW k8 dX2_opens_28 ?_
      refine lv_icmp_ge (tgt := 64) X.1 X.2.1 dX2_opens_29 (by decide) (fun c9 => ?_) (fun c9 => ?_)
      · replace hf := zif_pos c9 hf
        refine lv_iconst (v := 0) X.1 X.2.1 dX2_opens_64 (by decide) ?_
        obtain ⟨rfl, rfl⟩ := zi2 hf
        exact ze_retZ X hr hlk (by decide) hW (Nat.le_refl _) (Nat.le_refl _) dX2_opens_65
      · replace hf := zif_neg c9 hf
        refine lv_aload_n X.1 X.2.1 dX2_opens_32 rfl (lv_at hl 0 rfl) ?_
        refine ze_getI X 2 5 32 (RX2, TX2, 9) rfl hW hK0 rfl (by decide) kfl_X2_32 dX2_opens_33 ?_
        refine lv_aload_n X.1 X.2.1 dX2_opens_36 rfl (lv_at hl 0 rfl) ?_
        refine ze_gtR X 2 7 38 (RX2, TX2, 9) rfl hf hW hK0 rfl (by decide) kfl_X2_38 dX2_opens_37 (fun o10 hg => ?_)
        replace hf := hg
        obtain ⟨a11, rfl, k13, hg⟩ := zh_dr hf
        replace hf := hg
        refine ze_alen X 2 (by decide) hW k13 dX2_opens_40 ?_
        refine lv_icmp_ge (tgt := 64) X.1 X.2.1 dX2_opens_41 (by decide) (fun c14 => ?_) (fun c14 => ?_)
        · replace hf := zif_pos c14 hf
          refine lv_iconst (v := 0) X.1 X.2.1 dX2_opens_64 (by decide) ?_
          obtain ⟨rfl, rfl⟩ := zi2 hf
          exact ze_retZ X hr hlk (by decide) hW (Nat.le_refl _) (Nat.le_refl _) dX2_opens_65
        · replace hf := zif_neg c14 hf
          refine lv_aload_n X.1 X.2.1 dX2_opens_44 rfl (lv_at hl 0 rfl) ?_
          refine ze_gtR X 2 4 28 (RX2, TX2, 9) rfl hf hW hK0 rfl (by decide) kfl_X2_28 dX2_opens_45 (fun o15 hg => ?_)
          replace hf := hg
          refine lv_aload_n X.1 X.2.1 dX2_opens_48 rfl (lv_at hl 0 rfl) ?_
          refine ze_gtR X 2 4 28 (RX2, TX2, 9) rfl hf hW hK0 rfl (by decide) kfl_X2_28 dX2_opens_49 (fun o16 hg => ?_)
          replace hf := hg
          obtain ⟨a17, rfl, k19, hg⟩ := zh_dr hf
          replace hf := hg
          refine ze_getIN X 5 3 72 (RX5, TX5, 4) rfl hW k19 rfl (by decide) kfl_X2_72 dX2_opens_52 ?_
          refine lv_iconst (v := 1) X.1 X.2.1 dX2_opens_55 (by decide) ?_
          refine lv_isub X.1 X.2.1 dX2_opens_56 ?_
          obtain ⟨a20, rfl, k22, hg⟩ := zh_dr hf
          replace hf := hg
          obtain ⟨v23, h24, hg⟩ := zh_bd hf
          replace hf := hg
          refine ze_aftI0 (ze_runV (As := [.int ((I a17 3) - (1 : Int32))]) (rest := []) X 5 92 (c_X5_sortOf l D B n k22 h24) vX5_sortOf kml_X2_92 hW k22 rfl rfl ⟨by decide, by decide⟩ rfl hl.1 rfl (Nat.le_of_ble_eq_true rfl) ⟨Nat.le_refl _, Nat.le_refl _⟩ dX2_opens_57) hW (fun H locs hV => ?_)
          replace hW := hV
          refine lv_iconst (v := 3) X.1 X.2.1 dX2_opens_60 (by decide) ?_
          refine lv_icmp_ne (tgt := 66) X.1 X.2.1 dX2_opens_61 (by decide) (fun c25 => ?_) (fun c25 => ?_)
          · replace hf := zif_neg c25 hf
            refine lv_aload_n X.1 X.2.1 dX2_opens_66 rfl (lv_at hl 0 rfl) ?_
            refine ze_gtR X 2 6 35 (RX2, TX2, 9) rfl hf hW hK0 rfl (by decide) kfl_X2_35 dX2_opens_67 (fun o26 hg => ?_)
            replace hf := hg
            refine lv_aload_n X.1 X.2.1 dX2_opens_70 rfl (lv_at hl 0 rfl) ?_
            refine ze_getI X 2 5 32 (RX2, TX2, 9) rfl hW hK0 rfl (by decide) kfl_X2_32 dX2_opens_71 ?_
            refine lv_aload_n X.1 X.2.1 dX2_opens_74 rfl (lv_at hl 0 rfl) ?_
            refine ze_gtR X 2 4 28 (RX2, TX2, 9) rfl hf hW hK0 rfl (by decide) kfl_X2_28 dX2_opens_75 (fun o27 hg => ?_)
            replace hf := hg
            obtain ⟨a28, rfl, k30, hg⟩ := zh_dr hf
            replace hf := hg
            refine ze_getIN X 5 3 72 (RX5, TX5, 4) rfl hW k30 rfl (by decide) kfl_X2_72 dX2_opens_78 ?_
            refine lv_iconst (v := 1) X.1 X.2.1 dX2_opens_81 (by decide) ?_
            refine lv_isub X.1 X.2.1 dX2_opens_82 ?_
            obtain ⟨a31, rfl, k33, hg⟩ := zh_dr hf
            replace hf := hg
            refine ze_iast X hf hW k33 dX2_opens_83 (fun I34 H locs hg hV => ?_)
            replace hf := hg
            replace hW := hV
            refine lv_aload_n X.1 X.2.1 dX2_opens_84 rfl (lv_at hl 0 rfl) ?_
            refine ze_gtR X 2 7 38 (RX2, TX2, 9) rfl hf hW hK0 rfl (by decide) kfl_X2_38 dX2_opens_85 (fun o35 hg => ?_)
            replace hf := hg
            refine lv_aload_n X.1 X.2.1 dX2_opens_88 rfl (lv_at hl 0 rfl) ?_
            refine ze_getI X 2 5 32 (RX2, TX2, 9) rfl hW hK0 rfl (by decide) kfl_X2_32 dX2_opens_89 ?_
            refine lv_iconst (v := 0) X.1 X.2.1 dX2_opens_92 (by decide) ?_
            obtain ⟨a36, rfl, k38, hg⟩ := zh_dr hf
            replace hf := hg
            refine ze_zast X hf hW k38 dX2_opens_93 (fun I39 H locs hg hV => ?_)
            replace hf := hg
            replace hW := hV
            refine lv_aload_n X.1 X.2.1 dX2_opens_94 rfl (lv_at hl 0 rfl) ?_
            refine lv_dup X.1 X.2.1 dX2_opens_95 rfl ?_
            refine ze_getI X 2 5 32 (RX2, TX2, 9) rfl hW hK0 rfl (by decide) kfl_X2_32 dX2_opens_96 ?_
            refine lv_iconst (v := 1) X.1 X.2.1 dX2_opens_99 (by decide) ?_
            refine lv_iadd X.1 X.2.1 dX2_opens_100 ?_
            refine ze_putI X 2 5 32 (RX2, TX2, 9) rfl hf hW hK0 rfl (by decide) kfl_X2_32 rfl (by decide +kernel) dX2_opens_101 (fun I40 H locs hg hV => ?_)
            replace hf := hg
            replace hW := hV
            refine lv_aload_n X.1 X.2.1 dX2_opens_104 rfl (lv_at hl 0 rfl) ?_
            refine lv_dup X.1 X.2.1 dX2_opens_105 rfl ?_
            refine ze_getI X 2 2 19 (RX2, TX2, 9) rfl hW hK0 rfl (by decide) kfl_X2_19 dX2_opens_106 ?_
            refine lv_iconst (v := 1) X.1 X.2.1 dX2_opens_109 (by decide) ?_
            refine lv_iadd X.1 X.2.1 dX2_opens_110 ?_
            refine ze_putI X 2 2 19 (RX2, TX2, 9) rfl hf hW hK0 rfl (by decide) kfl_X2_19 rfl (by decide +kernel) dX2_opens_111 (fun I41 H locs hg hV => ?_)
            replace hf := hg
            replace hW := hV
            refine lv_iconst (v := 1) X.1 X.2.1 dX2_opens_114 (by decide) ?_
            obtain ⟨rfl, rfl⟩ := zi2 hf
            exact ze_retZ X hr hlk (by decide) hW (Nat.le_refl _) (Nat.le_refl _) dX2_opens_115
          · replace hf := zif_pos c25 hf
            refine lv_iconst (v := 0) X.1 X.2.1 dX2_opens_64 (by decide) ?_
            obtain ⟨rfl, rfl⟩ := zi2 hf
            exact ze_retZ X hr hlk (by decide) hW (Nat.le_refl _) (Nat.le_refl _) dX2_opens_65
end

/-! LeastPatterns$Reader.readComma()Z -/
def f_X2_readComma (F : Nat) (K : zK) (I : zI) (R : zR) (a0 : Nat)  : Option (Int32 × zI) :=
  zbd (f_X2_byteAt F K I R a0 (I a0 2)) fun v1 =>
  if v1 = (44 : Int32) then
    zbd (some (zup I a0 2 ((I a0 2) + (1 : Int32)))) fun I4 =>
    some ((1 : Int32), I4)
  else
    zbd2 (f_X2_faulty F K I R a0 (1 : Int32)) fun v5 I6 =>
    if v5 = 0 ∨ v5 = 1 then
    some (v5, I6)
    else
    none
section
variable {p : Program} {l : Launch} {e : Env} {s : State} {m : MethodId} {args : Array Value} {below : List Frame} {meth : Method} {c : Code} {D : zD} {B n n0 n' fd ld : Nat} {K K0 K' : zK} {I I' : zI} {R R' : zR} {H : Heap} {locs : List Loc} {ls : Array Slot} {r : Int32}
set_option maxRecDepth 100000 in
set_option maxHeartbeats 4000000 in
theorem c_X2_readComma (l : Launch) (D : zD) (B n : Nat) {F : Nat} {K : zK} {I : zI} {R : zR} {a0 : Nat}  {r : Int32} {I' : zI} (hK0 : (K a0).1 = 12) (hf : f_X2_readComma F K I R a0  = some (r, I')) : zM l yX2_readComma cX2_readComma 1 (some .boolean) ({ frames := 2, cells := 0, slots := 0, locals := 61 } : Room) D B n K I R [.ref (B + a0)] (zQi D (zOwn B K (B + n)) r B n K I' R) := by
  refine ze_entry (lv0 := [(0, .ref (B + a0))]) (by decide) (by simp [lg_sl, zcat, zcat_i, zcat_r, zcat_l]) (by simp [lv_args, zcat, zcat_i, zcat_r, zcat_l]) (fun p e s m below meth c X hr hlk hin hW ls hl => ?_)
  unfold f_X2_readComma at hf
  refine lv_aload_n X.1 X.2.1 dX2_readComma_0 rfl (lv_at hl 0 rfl) ?_
  refine lv_aload_n X.1 X.2.1 dX2_readComma_1 rfl (lv_at hl 0 rfl) ?_
  refine ze_getI X 2 2 19 (RX2, TX2, 9) rfl hW hK0 rfl (by decide) kfl_X2_19 dX2_readComma_2 ?_
  obtain ⟨v1, h2, hg⟩ := zh_bd hf
  replace hf := hg
  refine ze_aftI0 (ze_runV (As := [.int (I a0 2)]) (rest := []) X 2 61 (c_X2_byteAt l D B n hK0 h2) vX2_byteAt kml_X2_61 hW hK0 rfl rfl ⟨by decide, by decide⟩ rfl hl.1 rfl (Nat.le_of_ble_eq_true rfl) ⟨Nat.le_refl _, Nat.le_refl _⟩ dX2_readComma_5) hW (fun H locs hV => ?_)
  replace hW := hV
  refine lv_bipush (v := 44) X.1 X.2.1 dX2_readComma_8 (by decide) ?_
  refine lv_icmp_eq (tgt := 19) X.1 X.2.1 dX2_readComma_10 (by decide) (fun c3 => ?_) (fun c3 => ?_)
  · replace hf := zif_pos c3 hf
    refine lv_aload_n X.1 X.2.1 dX2_readComma_19 rfl (lv_at hl 0 rfl) ?_
    refine lv_dup X.1 X.2.1 dX2_readComma_20 rfl ?_
    refine ze_getI X 2 2 19 (RX2, TX2, 9) rfl hW hK0 rfl (by decide) kfl_X2_19 dX2_readComma_21 ?_
    refine lv_iconst (v := 1) X.1 X.2.1 dX2_readComma_24 (by decide) ?_
    refine lv_iadd X.1 X.2.1 dX2_readComma_25 ?_
    refine ze_putI X 2 2 19 (RX2, TX2, 9) rfl hf hW hK0 rfl (by decide) kfl_X2_19 rfl (by decide +kernel) dX2_readComma_26 (fun I4 H locs hg hV => ?_)
    replace hf := hg
    replace hW := hV
    refine lv_iconst (v := 1) X.1 X.2.1 dX2_readComma_29 (by decide) ?_
    obtain ⟨rfl, rfl⟩ := zi2 hf
    exact ze_retZ X hr hlk (by decide) hW (Nat.le_refl _) (Nat.le_refl _) dX2_readComma_30
  · replace hf := zif_neg c3 hf
    refine lv_aload_n X.1 X.2.1 dX2_readComma_13 rfl (lv_at hl 0 rfl) ?_
    refine lv_iconst (v := 1) X.1 X.2.1 dX2_readComma_14 (by decide) ?_
    obtain ⟨v5, I6, h7, hg⟩ := zh_bd2 hf
    replace hf := hg
    refine ze_aftI0 (ze_runV (As := [.int (1 : Int32)]) (rest := []) X 2 65 (c_X2_faulty l D B n hK0 h7) vX2_faulty kml_X2_65 hW hK0 rfl rfl ⟨by decide, by decide⟩ rfl hl.1 rfl (Nat.le_of_ble_eq_true rfl) ⟨Nat.le_refl _, Nat.le_refl _⟩ dX2_readComma_15) hW (fun H locs hV => ?_)
    replace hW := hV
    obtain ⟨hv8, hg⟩ := zh_if hf
    replace hf := hg
    obtain ⟨rfl, rfl⟩ := zi2 hf
    exact ze_retZ X hr hlk hv8 hW (Nat.le_refl _) (Nat.le_refl _) dX2_readComma_18
end

/-! LeastPatterns$Reader.holeSort(I)I -/
def f_X2_holeSort (F : Nat) (K : zK) (I : zI) (R : zR) (a0 : Nat) (x1 : Int32) : Option (Int32) :=
  if x1 = (40 : Int32) then
    some (2 : Int32)
  else
    if x1 = (42 : Int32) then
      if (I a0 5) ≤ (0 : Int32) then
        some (1 : Int32)
      else
        some (3 : Int32)
    else
      some (1 : Int32)
section
variable {p : Program} {l : Launch} {e : Env} {s : State} {m : MethodId} {args : Array Value} {below : List Frame} {meth : Method} {c : Code} {D : zD} {B n n0 n' fd ld : Nat} {K K0 K' : zK} {I I' : zI} {R R' : zR} {H : Heap} {locs : List Loc} {ls : Array Slot} {r : Int32}
set_option maxRecDepth 100000 in
set_option maxHeartbeats 4000000 in
theorem c_X2_holeSort (l : Launch) (D : zD) (B n : Nat) {F : Nat} {K : zK} {I : zI} {R : zR} {a0 : Nat} {x1 : Int32} {r : Int32} (hK0 : (K a0).1 = 12) (hf : f_X2_holeSort F K I R a0 x1 = some r) : zM l yX2_holeSort cX2_holeSort 2 (some .int) ({ frames := 1, cells := 0, slots := 0, locals := 40 } : Room) D B n K I R [.ref (B + a0), .int x1] (zQi D (zOwn B K (B + n)) r B n K I R) := by
  refine ze_entry (lv0 := [(0, .ref (B + a0)), (1, .int x1)]) (by decide) (by simp [lg_sl, zcat, zcat_i, zcat_r, zcat_l]) (by simp [lv_args, zcat, zcat_i, zcat_r, zcat_l]) (fun p e s m below meth c X hr hlk hin hW ls hl => ?_)
  unfold f_X2_holeSort at hf
  refine lv_iload_n X.1 X.2.1 dX2_holeSort_0 rfl (lv_at hl 1 rfl) ?_
  refine lv_bipush (v := 40) X.1 X.2.1 dX2_holeSort_1 (by decide) ?_
  refine lv_icmp_ne (tgt := 8) X.1 X.2.1 dX2_holeSort_3 (by decide) (fun c1 => ?_) (fun c1 => ?_)
  · replace hf := zif_neg c1 hf
    refine lv_iload_n X.1 X.2.1 dX2_holeSort_8 rfl (lv_at hl 1 rfl) ?_
    refine lv_bipush (v := 42) X.1 X.2.1 dX2_holeSort_9 (by decide) ?_
    refine lv_icmp_ne (tgt := 25) X.1 X.2.1 dX2_holeSort_11 (by decide) (fun c2 => ?_) (fun c2 => ?_)
    · replace hf := zif_neg c2 hf
      refine lv_iconst (v := 1) X.1 X.2.1 dX2_holeSort_25 (by decide) ?_
      obtain rfl := zi1 hf
      exact ze_retI X hr hlk hW (Nat.le_refl _) (Nat.le_refl _) dX2_holeSort_26
    · replace hf := zif_pos c2 hf
      refine lv_aload_n X.1 X.2.1 dX2_holeSort_14 rfl (lv_at hl 0 rfl) ?_
      refine ze_getI X 2 5 32 (RX2, TX2, 9) rfl hW hK0 rfl (by decide) kfl_X2_32 dX2_holeSort_15 ?_
      refine lv_if_le (tgt := 25) X.1 X.2.1 dX2_holeSort_18 (by decide) (fun c3 => ?_) (fun c3 => ?_)
      · replace hf := zif_pos c3 hf
        refine lv_iconst (v := 1) X.1 X.2.1 dX2_holeSort_25 (by decide) ?_
        obtain rfl := zi1 hf
        exact ze_retI X hr hlk hW (Nat.le_refl _) (Nat.le_refl _) dX2_holeSort_26
      · replace hf := zif_neg c3 hf
        refine lv_iconst (v := 3) X.1 X.2.1 dX2_holeSort_21 (by decide) ?_
        refine lv_goto (tgt := 26) X.1 X.2.1 dX2_holeSort_22 (by decide) ?_
        obtain rfl := zi1 hf
        exact ze_retI X hr hlk hW (Nat.le_refl _) (Nat.le_refl _) dX2_holeSort_26
  · replace hf := zif_pos c1 hf
    refine lv_iconst (v := 2) X.1 X.2.1 dX2_holeSort_6 (by decide) ?_
    obtain rfl := zi1 hf
    exact ze_retI X hr hlk hW (Nat.le_refl _) (Nat.le_refl _) dX2_holeSort_7
end

/-! LeastPatterns$Reader.takeHole(II)Z -/
def f_X2_takeHole_90 (F : Nat) (K : zK) (R : zR) (a0 : Nat)  (I : zI) (x1 : Int32) (x2 : Int32) : Option (Int32 × zI) :=
  zbd (some (R a0 8)) fun o1 =>
  zbd (zdr K o1 1) fun a2 =>
  zbd (zwr K I a2 x1 x2) fun I5 =>
  some ((1 : Int32), I5)
def f_X2_takeHole_38 (F : Nat) (K : zK) (R : zR) (a0 : Nat)  (I : zI) (x1 : Int32) (x2 : Int32) : Option (Int32 × zI) :=
  if x2 = (3 : Int32) then
    if (I a0 5) ≤ (0 : Int32) then
      f_X2_takeHole_90 F K R a0 I x1 x2
    else
      zbd (some (R a0 7)) fun o8 =>
      zbd (zdr K o8 2) fun a9 =>
      if (zln K a9) < (I a0 5) then
        f_X2_takeHole_90 F K R a0 I x1 x2
      else
        zbd (some (R a0 7)) fun o13 =>
        zbd (zdr K o13 2) fun a14 =>
        zbd (zrd K I a14 ((I a0 5) - (1 : Int32))) fun v17 =>
        if v17 = (0 : Int32) then
          zbd (some (R a0 7)) fun o19 =>
          zbd (zdr K o19 2) fun a20 =>
          zbd (zwrZ K I a20 ((I a0 5) - (1 : Int32)) (1 : Int32)) fun I23 =>
          f_X2_takeHole_90 F K R a0 I23 x1 x2
        else
          some ((0 : Int32), I)
  else
    f_X2_takeHole_90 F K R a0 I x1 x2
def f_X2_takeHole (F : Nat) (K : zK) (I : zI) (R : zR) (a0 : Nat) (x1 : Int32) (x2 : Int32) : Option (Int32 × zI) :=
  zbd (some (R a0 8)) fun o24 =>
  zbd (zdr K o24 1) fun a25 =>
  zbd (f_X6_outside F K I R x1 ((zln K a25) - (1 : Int32))) fun v28 =>
  if v28 = (0 : Int32) then
    zbd (some (R a0 8)) fun o31 =>
    zbd (zdr K o31 1) fun a32 =>
    zbd (zrd K I a32 x1) fun v35 =>
    if v35 = (-1 : Int32) then
      f_X2_takeHole_38 F K R a0 I x1 x2
    else
      zbd (some (R a0 8)) fun o37 =>
      zbd (zdr K o37 1) fun a38 =>
      zbd (zrd K I a38 x1) fun v41 =>
      if v41 = x2 then
        f_X2_takeHole_38 F K R a0 I x1 x2
      else
        some ((0 : Int32), I)
  else
    some ((0 : Int32), I)
section
variable {p : Program} {l : Launch} {e : Env} {s : State} {m : MethodId} {args : Array Value} {below : List Frame} {meth : Method} {c : Code} {D : zD} {B n n0 n' fd ld : Nat} {K K0 K' : zK} {I I' : zI} {R R' : zR} {H : Heap} {locs : List Loc} {ls : Array Slot} {r : Int32}
set_option maxRecDepth 100000 in
set_option maxHeartbeats 4000000 in
theorem w_X2_takeHole_90 {F : Nat} {a0 : Nat}  (X : zX p s m c cX2_takeHole 3 RX2 D) (hr : meth.sig.returnType = some .boolean) (hlk : meth.locks = false) (hK0 : (K a0).1 = 12)  {x1 : Int32} {x2 : Int32} (hf : f_X2_takeHole_90 F K R a0  I x1 x2 = some (r, I')) (hW : zS (zOwn B K (B + n)) D B n K I R s.heap H locs) (hl : lv_has ls 3 [(0, .ref (B + a0)), (1, .int x1), (2, .int x2)]) : W p l e ({ frames := 2, cells := 0, slots := 0, locals := 61 } : Room) s m args below meth c H locs 0 0 (MQ below (zQi D (zOwn B K (B + n)) r B n K I' R) args s 0 0 (zOwn B K (B + n))) (F0 m 90 ls []) := by
  unfold f_X2_takeHole_90 at hf
  refine lv_aload_n X.1 X.2.1 dX2_takeHole_90 rfl (lv_at hl 0 rfl) ?_
  refine ze_gtR X 2 8 42 (RX2, TX2, 9) rfl hf hW hK0 rfl (by decide) kfl_X2_42 dX2_takeHole_91 (fun o1 hg => ?_)
  replace hf := hg
  refine lv_iload_n X.1 X.2.1 dX2_takeHole_94 rfl (lv_at hl 1 rfl) ?_
  refine lv_iload_n X.1 X.2.1 dX2_takeHole_95 rfl (lv_at hl 2 rfl) ?_
  obtain ⟨a2, rfl, k4, hg⟩ := zh_dr hf
  replace hf := hg
  refine ze_iast X hf hW k4 dX2_takeHole_96 (fun I5 H locs hg hV => ?_)
  replace hf := hg
  replace hW := hV
  refine lv_iconst (v := 1) X.1 X.2.1 dX2_takeHole_97 (by decide) ?_
  obtain ⟨rfl, rfl⟩ := zi2 hf
  exact ze_retZ X hr hlk (by decide) hW (Nat.le_refl _) (Nat.le_refl _) dX2_takeHole_98
set_option maxRecDepth 100000 in
set_option maxHeartbeats 4000000 in
theorem w_X2_takeHole_38 {F : Nat} {a0 : Nat}  (X : zX p s m c cX2_takeHole 3 RX2 D) (hr : meth.sig.returnType = some .boolean) (hlk : meth.locks = false) (hK0 : (K a0).1 = 12)  {x1 : Int32} {x2 : Int32} (hf : f_X2_takeHole_38 F K R a0  I x1 x2 = some (r, I')) (hW : zS (zOwn B K (B + n)) D B n K I R s.heap H locs) (hl : lv_has ls 3 [(0, .ref (B + a0)), (1, .int x1), (2, .int x2)]) : W p l e ({ frames := 2, cells := 0, slots := 0, locals := 61 } : Room) s m args below meth c H locs 0 0 (MQ below (zQi D (zOwn B K (B + n)) r B n K I' R) args s 0 0 (zOwn B K (B + n))) (F0 m 38 ls []) := by
  unfold f_X2_takeHole_38 at hf
  refine lv_iload_n X.1 X.2.1 dX2_takeHole_38 rfl (lv_at hl 2 rfl) ?_
  refine lv_iconst (v := 3) X.1 X.2.1 dX2_takeHole_39 (by decide) ?_
  refine lv_icmp_ne (tgt := 90) X.1 X.2.1 dX2_takeHole_40 (by decide) (fun c6 => ?_) (fun c6 => ?_)
  · replace hf := zif_neg c6 hf
    exact w_X2_takeHole_90 X hr hlk hK0 hf hW hl
  · replace hf := zif_pos c6 hf
    refine lv_aload_n X.1 X.2.1 dX2_takeHole_43 rfl (lv_at hl 0 rfl) ?_
    refine ze_getI X 2 5 32 (RX2, TX2, 9) rfl hW hK0 rfl (by decide) kfl_X2_32 dX2_takeHole_44 ?_
    refine lv_if_le (tgt := 90) X.1 X.2.1 dX2_takeHole_47 (by decide) (fun c7 => ?_) (fun c7 => ?_)
    · replace hf := zif_pos c7 hf
      exact w_X2_takeHole_90 X hr hlk hK0 hf hW hl
    · replace hf := zif_neg c7 hf
      refine lv_aload_n X.1 X.2.1 dX2_takeHole_50 rfl (lv_at hl 0 rfl) ?_
      refine ze_getI X 2 5 32 (RX2, TX2, 9) rfl hW hK0 rfl (by decide) kfl_X2_32 dX2_takeHole_51 ?_
      refine lv_aload_n X.1 X.2.1 dX2_takeHole_54 rfl (lv_at hl 0 rfl) ?_
      refine ze_gtR X 2 7 38 (RX2, TX2, 9) rfl hf hW hK0 rfl (by decide) kfl_X2_38 dX2_takeHole_55 (fun o8 hg => ?_)
      replace hf := hg
      obtain ⟨a9, rfl, k11, hg⟩ := zh_dr hf
      replace hf := hg
      refine ze_alen X 2 (by decide) hW k11 dX2_takeHole_58 ?_
      refine lv_icmp_gt (tgt := 90) X.1 X.2.1 dX2_takeHole_59 (by decide) (fun c12 => ?_) (fun c12 => ?_)
      · replace hf := zif_pos c12 hf
        exact w_X2_takeHole_90 X hr hlk hK0 hf hW hl
      · replace hf := zif_neg c12 hf
        refine lv_aload_n X.1 X.2.1 dX2_takeHole_62 rfl (lv_at hl 0 rfl) ?_
        refine ze_gtR X 2 7 38 (RX2, TX2, 9) rfl hf hW hK0 rfl (by decide) kfl_X2_38 dX2_takeHole_63 (fun o13 hg => ?_)
        replace hf := hg
        refine lv_aload_n X.1 X.2.1 dX2_takeHole_66 rfl (lv_at hl 0 rfl) ?_
        refine ze_getI X 2 5 32 (RX2, TX2, 9) rfl hW hK0 rfl (by decide) kfl_X2_32 dX2_takeHole_67 ?_
        refine lv_iconst (v := 1) X.1 X.2.1 dX2_takeHole_70 (by decide) ?_
        refine lv_isub X.1 X.2.1 dX2_takeHole_71 ?_
        obtain ⟨a14, rfl, k16, hg⟩ := zh_dr hf
        replace hf := hg
        refine ze_zald X hf hW k16 dX2_takeHole_72 (fun v17 hg => ?_)
        replace hf := hg
        refine lv_if_eq (tgt := 78) X.1 X.2.1 dX2_takeHole_73 (by decide) (fun c18 => ?_) (fun c18 => ?_)
        · replace hf := zif_pos c18 hf
          refine lv_aload_n X.1 X.2.1 dX2_takeHole_78 rfl (lv_at hl 0 rfl) ?_
          refine ze_gtR X 2 7 38 (RX2, TX2, 9) rfl hf hW hK0 rfl (by decide) kfl_X2_38 dX2_takeHole_79 (fun o19 hg => ?_)
          replace hf := hg
          refine lv_aload_n X.1 X.2.1 dX2_takeHole_82 rfl (lv_at hl 0 rfl) ?_
          refine ze_getI X 2 5 32 (RX2, TX2, 9) rfl hW hK0 rfl (by decide) kfl_X2_32 dX2_takeHole_83 ?_
          refine lv_iconst (v := 1) X.1 X.2.1 dX2_takeHole_86 (by decide) ?_
          refine lv_isub X.1 X.2.1 dX2_takeHole_87 ?_
          refine lv_iconst (v := 1) X.1 X.2.1 dX2_takeHole_88 (by decide) ?_
          obtain ⟨a20, rfl, k22, hg⟩ := zh_dr hf
          replace hf := hg
          refine ze_zast X hf hW k22 dX2_takeHole_89 (fun I23 H locs hg hV => ?_)
          replace hf := hg
          replace hW := hV
          exact w_X2_takeHole_90 X hr hlk hK0 hf hW hl
        · replace hf := zif_neg c18 hf
          refine lv_iconst (v := 0) X.1 X.2.1 dX2_takeHole_76 (by decide) ?_
          obtain ⟨rfl, rfl⟩ := zi2 hf
          exact ze_retZ X hr hlk (by decide) hW (Nat.le_refl _) (Nat.le_refl _) dX2_takeHole_77
set_option maxRecDepth 100000 in
set_option maxHeartbeats 4000000 in
theorem c_X2_takeHole (l : Launch) (D : zD) (B n : Nat) {F : Nat} {K : zK} {I : zI} {R : zR} {a0 : Nat} {x1 : Int32} {x2 : Int32} {r : Int32} {I' : zI} (hK0 : (K a0).1 = 12) (hf : f_X2_takeHole F K I R a0 x1 x2 = some (r, I')) : zM l yX2_takeHole cX2_takeHole 3 (some .boolean) ({ frames := 2, cells := 0, slots := 0, locals := 61 } : Room) D B n K I R [.ref (B + a0), .int x1, .int x2] (zQi D (zOwn B K (B + n)) r B n K I' R) := by
  refine ze_entry (lv0 := [(0, .ref (B + a0)), (1, .int x1), (2, .int x2)]) (by decide) (by simp [lg_sl, zcat, zcat_i, zcat_r, zcat_l]) (by simp [lv_args, zcat, zcat_i, zcat_r, zcat_l]) (fun p e s m below meth c X hr hlk hin hW ls hl => ?_)
  unfold f_X2_takeHole at hf
  refine lv_iload_n X.1 X.2.1 dX2_takeHole_0 rfl (lv_at hl 1 rfl) ?_
  refine lv_aload_n X.1 X.2.1 dX2_takeHole_1 rfl (lv_at hl 0 rfl) ?_
  refine ze_gtR X 2 8 42 (RX2, TX2, 9) rfl hf hW hK0 rfl (by decide) kfl_X2_42 dX2_takeHole_2 (fun o24 hg => ?_)
  replace hf := hg
  obtain ⟨a25, rfl, k27, hg⟩ := zh_dr hf
  replace hf := hg
  refine ze_alen X 1 (by decide) hW k27 dX2_takeHole_5 ?_
  refine lv_iconst (v := 1) X.1 X.2.1 dX2_takeHole_6 (by decide) ?_
  refine lv_isub X.1 X.2.1 dX2_takeHole_7 ?_
  obtain ⟨v28, h29, hg⟩ := zh_bd hf
  replace hf := hg
  refine ze_aftI0 (ze_runSN (As := [.int x1, .int ((zln K a25) - (1 : Int32))]) (rest := []) X 89 (c_X6_outside l D B n h29) vX6_outside kml_X2_89 hW ⟨by decide, by decide⟩ rfl hl.1 rfl (Nat.le_of_ble_eq_true rfl) ⟨Nat.le_refl _, Nat.le_refl _⟩ dX2_takeHole_8) hW (fun H locs hV => ?_)
  replace hW := hV
  refine lv_if_eq (tgt := 16) X.1 X.2.1 dX2_takeHole_11 (by decide) (fun c30 => ?_) (fun c30 => ?_)
  · replace hf := zif_pos c30 hf
    refine lv_aload_n X.1 X.2.1 dX2_takeHole_16 rfl (lv_at hl 0 rfl) ?_
    refine ze_gtR X 2 8 42 (RX2, TX2, 9) rfl hf hW hK0 rfl (by decide) kfl_X2_42 dX2_takeHole_17 (fun o31 hg => ?_)
    replace hf := hg
    refine lv_iload_n X.1 X.2.1 dX2_takeHole_20 rfl (lv_at hl 1 rfl) ?_
    obtain ⟨a32, rfl, k34, hg⟩ := zh_dr hf
    replace hf := hg
    refine ze_iald X hf hW k34 dX2_takeHole_21 (fun v35 hg => ?_)
    replace hf := hg
    refine lv_iconst (v := -1) X.1 X.2.1 dX2_takeHole_22 (by decide) ?_
    refine lv_icmp_eq (tgt := 38) X.1 X.2.1 dX2_takeHole_23 (by decide) (fun c36 => ?_) (fun c36 => ?_)
    · replace hf := zif_pos c36 hf
      exact w_X2_takeHole_38 X hr hlk hK0 hf hW hl
    · replace hf := zif_neg c36 hf
      refine lv_aload_n X.1 X.2.1 dX2_takeHole_26 rfl (lv_at hl 0 rfl) ?_
      refine ze_gtR X 2 8 42 (RX2, TX2, 9) rfl hf hW hK0 rfl (by decide) kfl_X2_42 dX2_takeHole_27 (fun o37 hg => ?_)
      replace hf := hg
      refine lv_iload_n X.1 X.2.1 dX2_takeHole_30 rfl (lv_at hl 1 rfl) ?_
      obtain ⟨a38, rfl, k40, hg⟩ := zh_dr hf
      replace hf := hg
      refine ze_iald X hf hW k40 dX2_takeHole_31 (fun v41 hg => ?_)
      replace hf := hg
      refine lv_iload_n X.1 X.2.1 dX2_takeHole_32 rfl (lv_at hl 2 rfl) ?_
      refine lv_icmp_eq (tgt := 38) X.1 X.2.1 dX2_takeHole_33 (by decide) (fun c42 => ?_) (fun c42 => ?_)
      · replace hf := zif_pos c42 hf
        exact w_X2_takeHole_38 X hr hlk hK0 hf hW hl
      · replace hf := zif_neg c42 hf
        refine lv_iconst (v := 0) X.1 X.2.1 dX2_takeHole_36 (by decide) ?_
        obtain ⟨rfl, rfl⟩ := zi2 hf
        exact ze_retZ X hr hlk (by decide) hW (Nat.le_refl _) (Nat.le_refl _) dX2_takeHole_37
  · replace hf := zif_neg c30 hf
    refine lv_iconst (v := 0) X.1 X.2.1 dX2_takeHole_14 (by decide) ?_
    obtain ⟨rfl, rfl⟩ := zi2 hf
    exact ze_retZ X hr hlk (by decide) hW (Nat.le_refl _) (Nat.le_refl _) dX2_takeHole_15
end

/-! LeastPatterns$Term.append(II)Z -/
def f_X5_append (F : Nat) (K : zK) (I : zI) (R : zR) (a0 : Nat) (x1 : Int32) (x2 : Int32) : Option (Int32 × zI) :=
  if x1 < (0 : Int32) then
    some ((0 : Int32), I)
  else
    zbd (some (R a0 0)) fun o2 =>
    zbd (zdr K o2 1) fun a3 =>
    zbd (f_X6_outside F K I R (I a0 3) ((zln K a3) - (1 : Int32))) fun v6 =>
    if v6 = (0 : Int32) then
      zbd (f_X6_outside F K I R x2 (8 : Int32)) fun v9 =>
      if v9 = (0 : Int32) then
        zbd (some (R a0 0)) fun o12 =>
        zbd (zdr K o12 1) fun a13 =>
        zbd (zwr K I a13 (I a0 3) ((x1 <<< ((4 : Int32) &&& 31)) ||| x2)) fun I16 =>
        zbd (some (zup I16 a0 3 ((I16 a0 3) + (1 : Int32)))) fun I17 =>
        some ((1 : Int32), I17)
      else
        some ((0 : Int32), I)
    else
      some ((0 : Int32), I)
section
variable {p : Program} {l : Launch} {e : Env} {s : State} {m : MethodId} {args : Array Value} {below : List Frame} {meth : Method} {c : Code} {D : zD} {B n n0 n' fd ld : Nat} {K K0 K' : zK} {I I' : zI} {R R' : zR} {H : Heap} {locs : List Loc} {ls : Array Slot} {r : Int32}
set_option maxRecDepth 100000 in
set_option maxHeartbeats 4000000 in
theorem c_X5_append (l : Launch) (D : zD) (B n : Nat) {F : Nat} {K : zK} {I : zI} {R : zR} {a0 : Nat} {x1 : Int32} {x2 : Int32} {r : Int32} {I' : zI} (hK0 : (K a0).1 = 15) (hf : f_X5_append F K I R a0 x1 x2 = some (r, I')) : zM l yX5_append cX5_append 3 (some .boolean) ({ frames := 2, cells := 0, slots := 0, locals := 61 } : Room) D B n K I R [.ref (B + a0), .int x1, .int x2] (zQi D (zOwn B K (B + n)) r B n K I' R) := by
  refine ze_entry (lv0 := [(0, .ref (B + a0)), (1, .int x1), (2, .int x2)]) (by decide) (by simp [lg_sl, zcat, zcat_i, zcat_r, zcat_l]) (by simp [lv_args, zcat, zcat_i, zcat_r, zcat_l]) (fun p e s m below meth c X hr hlk hin hW ls hl => ?_)
  unfold f_X5_append at hf
  refine lv_iload_n X.1 X.2.1 dX5_append_0 rfl (lv_at hl 1 rfl) ?_
  refine lv_if_lt (tgt := 30) X.1 X.2.1 dX5_append_1 (by decide) (fun c1 => ?_) (fun c1 => ?_)
  · replace hf := zif_pos c1 hf
    refine lv_iconst (v := 0) X.1 X.2.1 dX5_append_30 (by decide) ?_
    obtain ⟨rfl, rfl⟩ := zi2 hf
    exact ze_retZ X hr hlk (by decide) hW (Nat.le_refl _) (Nat.le_refl _) dX5_append_31
  · replace hf := zif_neg c1 hf
    refine lv_aload_n X.1 X.2.1 dX5_append_4 rfl (lv_at hl 0 rfl) ?_
    refine ze_getI X 5 3 21 (RX5, TX5, 4) rfl hW hK0 rfl (by decide) kfl_X5_21 dX5_append_5 ?_
    refine lv_aload_n X.1 X.2.1 dX5_append_8 rfl (lv_at hl 0 rfl) ?_
    refine ze_gtR X 5 0 9 (RX5, TX5, 4) rfl hf hW hK0 rfl (by decide) kfl_X5_9 dX5_append_9 (fun o2 hg => ?_)
    replace hf := hg
    obtain ⟨a3, rfl, k5, hg⟩ := zh_dr hf
    replace hf := hg
    refine ze_alen X 1 (by decide) hW k5 dX5_append_12 ?_
    refine lv_iconst (v := 1) X.1 X.2.1 dX5_append_13 (by decide) ?_
    refine lv_isub X.1 X.2.1 dX5_append_14 ?_
    obtain ⟨v6, h7, hg⟩ := zh_bd hf
    replace hf := hg
    refine ze_aftI0 (ze_runSN (As := [.int (I a0 3), .int ((zln K a3) - (1 : Int32))]) (rest := []) X 25 (c_X6_outside l D B n h7) vX6_outside kml_X5_25 hW ⟨by decide, by decide⟩ rfl hl.1 rfl (Nat.le_of_ble_eq_true rfl) ⟨Nat.le_refl _, Nat.le_refl _⟩ dX5_append_15) hW (fun H locs hV => ?_)
    replace hW := hV
    refine lv_if_ne (tgt := 30) X.1 X.2.1 dX5_append_18 (by decide) (fun c8 => ?_) (fun c8 => ?_)
    · replace hf := zif_neg c8 hf
      refine lv_iconst (v := 0) X.1 X.2.1 dX5_append_30 (by decide) ?_
      obtain ⟨rfl, rfl⟩ := zi2 hf
      exact ze_retZ X hr hlk (by decide) hW (Nat.le_refl _) (Nat.le_refl _) dX5_append_31
    · replace hf := zif_pos c8 hf
      refine lv_iload_n X.1 X.2.1 dX5_append_21 rfl (lv_at hl 2 rfl) ?_
      refine lv_bipush (v := 8) X.1 X.2.1 dX5_append_22 (by decide) ?_
      obtain ⟨v9, h10, hg⟩ := zh_bd hf
      replace hf := hg
      refine ze_aftI0 (ze_runSN (As := [.int x2, .int (8 : Int32)]) (rest := []) X 25 (c_X6_outside l D B n h10) vX6_outside kml_X5_25 hW ⟨by decide, by decide⟩ rfl hl.1 rfl (Nat.le_of_ble_eq_true rfl) ⟨Nat.le_refl _, Nat.le_refl _⟩ dX5_append_24) hW (fun H locs hV => ?_)
      replace hW := hV
      refine lv_if_eq (tgt := 32) X.1 X.2.1 dX5_append_27 (by decide) (fun c11 => ?_) (fun c11 => ?_)
      · replace hf := zif_pos c11 hf
        refine lv_aload_n X.1 X.2.1 dX5_append_32 rfl (lv_at hl 0 rfl) ?_
        refine ze_gtR X 5 0 9 (RX5, TX5, 4) rfl hf hW hK0 rfl (by decide) kfl_X5_9 dX5_append_33 (fun o12 hg => ?_)
        replace hf := hg
        refine lv_aload_n X.1 X.2.1 dX5_append_36 rfl (lv_at hl 0 rfl) ?_
        refine ze_getI X 5 3 21 (RX5, TX5, 4) rfl hW hK0 rfl (by decide) kfl_X5_21 dX5_append_37 ?_
        refine lv_iload_n X.1 X.2.1 dX5_append_40 rfl (lv_at hl 1 rfl) ?_
        refine lv_iconst (v := 4) X.1 X.2.1 dX5_append_41 (by decide) ?_
        refine lv_ishl X.1 X.2.1 dX5_append_42 ?_
        refine lv_iload_n X.1 X.2.1 dX5_append_43 rfl (lv_at hl 2 rfl) ?_
        refine lv_ior X.1 X.2.1 dX5_append_44 ?_
        obtain ⟨a13, rfl, k15, hg⟩ := zh_dr hf
        replace hf := hg
        refine ze_iast X hf hW k15 dX5_append_45 (fun I16 H locs hg hV => ?_)
        replace hf := hg
        replace hW := hV
        refine lv_aload_n X.1 X.2.1 dX5_append_46 rfl (lv_at hl 0 rfl) ?_
        refine lv_dup X.1 X.2.1 dX5_append_47 rfl ?_
        refine ze_getI X 5 3 21 (RX5, TX5, 4) rfl hW hK0 rfl (by decide) kfl_X5_21 dX5_append_48 ?_
        refine lv_iconst (v := 1) X.1 X.2.1 dX5_append_51 (by decide) ?_
        refine lv_iadd X.1 X.2.1 dX5_append_52 ?_
        refine ze_putI X 5 3 21 (RX5, TX5, 4) rfl hf hW hK0 rfl (by decide) kfl_X5_21 rfl (by decide +kernel) dX5_append_53 (fun I17 H locs hg hV => ?_)
        replace hf := hg
        replace hW := hV
        refine lv_iconst (v := 1) X.1 X.2.1 dX5_append_56 (by decide) ?_
        obtain ⟨rfl, rfl⟩ := zi2 hf
        exact ze_retZ X hr hlk (by decide) hW (Nat.le_refl _) (Nat.le_refl _) dX5_append_57
      · replace hf := zif_neg c11 hf
        refine lv_iconst (v := 0) X.1 X.2.1 dX5_append_30 (by decide) ?_
        obtain ⟨rfl, rfl⟩ := zi2 hf
        exact ze_retZ X hr hlk (by decide) hW (Nat.le_refl _) (Nat.le_refl _) dX5_append_31
end

/-! LeastPatterns$Term.countArgument(I)V -/
def f_X5_countArgument (F : Nat) (K : zK) (I : zI) (R : zR) (a0 : Nat) (x1 : Int32) : Option (zI) :=
  if x1 < (0 : Int32) then
    some I
  else
    if (I a0 3) ≤ x1 then
      some I
    else
      zbd (f_X5_argumentsOf F K I R a0 x1) fun v3 =>
      if (8 : Int32) ≤ v3 then
        some I
      else
        zbd (some (R a0 0)) fun o6 =>
        zbd (zdr K o6 1) fun a7 =>
        zbd (zrd K I a7 x1) fun v10 =>
        zbd (zwr K I a7 x1 (v10 + (1 : Int32))) fun I11 =>
        some I11
section
variable {p : Program} {l : Launch} {e : Env} {s : State} {m : MethodId} {args : Array Value} {below : List Frame} {meth : Method} {c : Code} {D : zD} {B n n0 n' fd ld : Nat} {K K0 K' : zK} {I I' : zI} {R R' : zR} {H : Heap} {locs : List Loc} {ls : Array Slot} {r : Int32}
set_option maxRecDepth 100000 in
set_option maxHeartbeats 4000000 in
theorem c_X5_countArgument (l : Launch) (D : zD) (B n : Nat) {F : Nat} {K : zK} {I : zI} {R : zR} {a0 : Nat} {x1 : Int32} {I' : zI} (hK0 : (K a0).1 = 15) (hf : f_X5_countArgument F K I R a0 x1 = some I') : zM l yX5_countArgument cX5_countArgument 2 (none) ({ frames := 2, cells := 0, slots := 0, locals := 61 } : Room) D B n K I R [.ref (B + a0), .int x1] (zQv D (zOwn B K (B + n)) B n K I' R) := by
  refine ze_entry (lv0 := [(0, .ref (B + a0)), (1, .int x1)]) (by decide) (by simp [lg_sl, zcat, zcat_i, zcat_r, zcat_l]) (by simp [lv_args, zcat, zcat_i, zcat_r, zcat_l]) (fun p e s m below meth c X hr hlk hin hW ls hl => ?_)
  unfold f_X5_countArgument at hf
  refine lv_iload_n X.1 X.2.1 dX5_countArgument_0 rfl (lv_at hl 1 rfl) ?_
  refine lv_if_lt (tgt := 32) X.1 X.2.1 dX5_countArgument_1 (by decide) (fun c1 => ?_) (fun c1 => ?_)
  · replace hf := zif_pos c1 hf
    obtain rfl := zi1 hf
    exact ze_retV X hr hlk hW (Nat.le_refl _) (Nat.le_refl _) dX5_countArgument_32
  · replace hf := zif_neg c1 hf
    refine lv_iload_n X.1 X.2.1 dX5_countArgument_4 rfl (lv_at hl 1 rfl) ?_
    refine lv_aload_n X.1 X.2.1 dX5_countArgument_5 rfl (lv_at hl 0 rfl) ?_
    refine ze_getI X 5 3 21 (RX5, TX5, 4) rfl hW hK0 rfl (by decide) kfl_X5_21 dX5_countArgument_6 ?_
    refine lv_icmp_ge (tgt := 32) X.1 X.2.1 dX5_countArgument_9 (by decide) (fun c2 => ?_) (fun c2 => ?_)
    · replace hf := zif_pos c2 hf
      obtain rfl := zi1 hf
      exact ze_retV X hr hlk hW (Nat.le_refl _) (Nat.le_refl _) dX5_countArgument_32
    · replace hf := zif_neg c2 hf
      refine lv_aload_n X.1 X.2.1 dX5_countArgument_12 rfl (lv_at hl 0 rfl) ?_
      refine lv_iload_n X.1 X.2.1 dX5_countArgument_13 rfl (lv_at hl 1 rfl) ?_
      obtain ⟨v3, h4, hg⟩ := zh_bd hf
      replace hf := hg
      refine ze_aftI0 (ze_runV (As := [.int x1]) (rest := []) X 5 33 (c_X5_argumentsOf l D B n hK0 h4) vX5_argumentsOf kml_X5_33 hW hK0 rfl rfl ⟨by decide, by decide⟩ rfl hl.1 rfl (Nat.le_of_ble_eq_true rfl) ⟨Nat.le_refl _, Nat.le_refl _⟩ dX5_countArgument_14) hW (fun H locs hV => ?_)
      replace hW := hV
      refine lv_bipush (v := 8) X.1 X.2.1 dX5_countArgument_17 (by decide) ?_
      refine lv_icmp_ge (tgt := 32) X.1 X.2.1 dX5_countArgument_19 (by decide) (fun c5 => ?_) (fun c5 => ?_)
      · replace hf := zif_pos c5 hf
        obtain rfl := zi1 hf
        exact ze_retV X hr hlk hW (Nat.le_refl _) (Nat.le_refl _) dX5_countArgument_32
      · replace hf := zif_neg c5 hf
        refine lv_aload_n X.1 X.2.1 dX5_countArgument_22 rfl (lv_at hl 0 rfl) ?_
        refine ze_gtR X 5 0 9 (RX5, TX5, 4) rfl hf hW hK0 rfl (by decide) kfl_X5_9 dX5_countArgument_23 (fun o6 hg => ?_)
        replace hf := hg
        refine lv_iload_n X.1 X.2.1 dX5_countArgument_26 rfl (lv_at hl 1 rfl) ?_
        refine lv_dup2_11 X.1 X.2.1 dX5_countArgument_27 rfl (zcat _ _) ?_
        obtain ⟨a7, rfl, k9, hg⟩ := zh_dr hf
        replace hf := hg
        refine ze_iald X hf hW k9 dX5_countArgument_28 (fun v10 hg => ?_)
        replace hf := hg
        refine lv_iconst (v := 1) X.1 X.2.1 dX5_countArgument_29 (by decide) ?_
        refine lv_iadd X.1 X.2.1 dX5_countArgument_30 ?_
        refine ze_iast X hf hW k9 dX5_countArgument_31 (fun I11 H locs hg hV => ?_)
        replace hf := hg
        replace hW := hV
        obtain rfl := zi1 hf
        exact ze_retV X hr hlk hW (Nat.le_refl _) (Nat.le_refl _) dX5_countArgument_32
end

/-! LeastPatterns$Reader.readHead()Z -/
def f_X2_readHead_209 (F : Nat) (K : zK) (R : zR) (a0 : Nat)  (I : zI) (x4 : Int32) (x5 : Int32) (x6 : Int32) : Option (Int32 × zI) :=
  zbd (some (R a0 4)) fun o1 =>
  zbd (zdr K o1 15) fun a2 =>
  zbd (f_X5_countArgument F K I R a2 x4) fun I5 =>
  zbd (some (R a0 4)) fun o7 =>
  zbd (zdr K o7 15) fun a8 =>
  zbd2 (f_X5_append F K I5 R a8 ((x6 <<< ((4 : Int32) &&& 31)) ||| x5) (0 : Int32)) fun v11 I12 =>
  if x6 = (3 : Int32) then
    zbd (some (zup I12 a0 2 ((I12 a0 2) + (2 : Int32)))) fun I16 =>
    some ((1 : Int32), I16)
  else
    zbd (some (zup I12 a0 2 ((I12 a0 2) + (1 : Int32)))) fun I15 =>
    some ((1 : Int32), I15)
def f_X2_readHead_186 (F : Nat) (K : zK) (R : zR) (a0 : Nat)  (I : zI) (x3 : Int32) (x4 : Int32) (x5 : Int32) (s0 : Int32) : Option (Int32 × zI) :=
  if x3 = (0 : Int32) then
    f_X2_readHead_209 F K R a0 I x4 x5 s0
  else
    zbd2 (f_X2_takeHole F K I R a0 x5 s0) fun v18 I19 =>
    if v18 = (0 : Int32) then
      zbd2 (f_X2_faulty F K I19 R a0 (4 : Int32)) fun v22 I23 =>
      if v22 = 0 ∨ v22 = 1 then
      some (v22, I23)
      else
      none
    else
      f_X2_readHead_209 F K R a0 I19 x4 x5 s0
def f_X2_readHead_162 (F : Nat) (K : zK) (R : zR) (a0 : Nat)  (I : zI) (x2 : Int32) (x3 : Int32) (x4 : Int32) (s0 : Int32) : Option (Int32 × zI) :=
  if x2 = (0 : Int32) then
    zbd (f_X2_byteAt F K I R a0 ((I a0 2) + (1 : Int32))) fun v27 =>
    zbd (f_X2_holeSort F K I R a0 v27) fun v29 =>
    f_X2_readHead_186 F K R a0 I x3 x4 s0 v29
  else
    f_X2_readHead_186 F K R a0 I x3 x4 s0 (0 : Int32)
def f_X2_readHead_141 (F : Nat) (K : zK) (R : zR) (a0 : Nat)  (I : zI) : Option (Int32 × zI) :=
  zbd2 (f_X2_faulty F K I R a0 (3 : Int32)) fun v31 I32 =>
  if v31 = 0 ∨ v31 = 1 then
  some (v31, I32)
  else
  none
def f_X2_readHead_120 (F : Nat) (K : zK) (R : zR) (a0 : Nat)  (I : zI) (x1 : Int32) (x2 : Int32) (x3 : Int32) (x4 : Int32) : Option (Int32 × zI) :=
  zbd (some (R a0 4)) fun o35 =>
  zbd (zdr K o35 15) fun a36 =>
  if (32 : Int32) ≤ (I a36 3) then
    f_X2_readHead_141 F K R a0 I
  else
    if (I a0 5) ≤ (7 : Int32) then
      if x2 = (0 : Int32) then
        f_X2_readHead_162 F K R a0 I x2 x3 x4 (x1 - (48 : Int32))
      else
        f_X2_readHead_162 F K R a0 I x2 x3 x4 (x1 - (97 : Int32))
    else
      f_X2_readHead_141 F K R a0 I
def f_X2_readHead_93 (F : Nat) (K : zK) (R : zR) (a0 : Nat)  (I : zI) (x1 : Int32) (x2 : Int32) (x3 : Int32) (s0 : Int32) : Option (Int32 × zI) :=
  if s0 < (0 : Int32) then
    f_X2_readHead_120 F K R a0 I x1 x2 x3 s0
  else
    zbd (some (R a0 4)) fun o43 =>
    zbd (zdr K o43 15) fun a44 =>
    zbd (f_X5_argumentsOf F K I R a44 s0) fun v47 =>
    if v47 < (8 : Int32) then
      f_X2_readHead_120 F K R a0 I x1 x2 x3 s0
    else
      zbd2 (f_X2_faulty F K I R a0 (2 : Int32)) fun v50 I51 =>
      if v50 = 0 ∨ v50 = 1 then
      some (v50, I51)
      else
      none
def f_X2_readHead_92 (F : Nat) (K : zK) (R : zR) (a0 : Nat)  (I : zI) (x1 : Int32) (x2 : Int32) (x3 : Int32) : Option (Int32 × zI) :=
  f_X2_readHead_93 F K R a0 I x1 x2 x3 (-1 : Int32)
def f_X2_readHead_59 (F : Nat) (K : zK) (R : zR) (a0 : Nat)  (I : zI) (x1 : Int32) (x2 : Int32) (x3 : Int32) : Option (Int32 × zI) :=
  if (I a0 5) ≤ (0 : Int32) then
    f_X2_readHead_92 F K R a0 I x1 x2 x3
  else
    zbd (some (R a0 6)) fun o55 =>
    zbd (zdr K o55 1) fun a56 =>
    if (zln K a56) < (I a0 5) then
      f_X2_readHead_92 F K R a0 I x1 x2 x3
    else
      zbd (some (R a0 6)) fun o60 =>
      zbd (zdr K o60 1) fun a61 =>
      zbd (zrd K I a61 ((I a0 5) - (1 : Int32))) fun v64 =>
      f_X2_readHead_93 F K R a0 I x1 x2 x3 v64
def f_X2_readHead_44 (F : Nat) (K : zK) (R : zR) (a0 : Nat)  (I : zI) (x1 : Int32) (x2 : Int32) (s0 : Int32) : Option (Int32 × zI) :=
  if x2 = (0 : Int32) then
    if s0 = (0 : Int32) then
      zbd2 (f_X2_faulty F K I R a0 (1 : Int32)) fun v67 I68 =>
      if v67 = 0 ∨ v67 = 1 then
      some (v67, I68)
      else
      none
    else
      f_X2_readHead_59 F K R a0 I x1 x2 s0
  else
    f_X2_readHead_59 F K R a0 I x1 x2 s0
def f_X2_readHead_43 (F : Nat) (K : zK) (R : zR) (a0 : Nat)  (I : zI) (x1 : Int32) (x2 : Int32) : Option (Int32 × zI) :=
  f_X2_readHead_44 F K R a0 I x1 x2 (0 : Int32)
def f_X2_readHead_26 (F : Nat) (K : zK) (R : zR) (a0 : Nat)  (I : zI) (x1 : Int32) (s0 : Int32) : Option (Int32 × zI) :=
  if x1 < (48 : Int32) then
    f_X2_readHead_43 F K R a0 I x1 s0
  else
    if (57 : Int32) < x1 then
      f_X2_readHead_43 F K R a0 I x1 s0
    else
      f_X2_readHead_44 F K R a0 I x1 s0 (1 : Int32)
def f_X2_readHead_25 (F : Nat) (K : zK) (R : zR) (a0 : Nat)  (I : zI) (x1 : Int32) : Option (Int32 × zI) :=
  f_X2_readHead_26 F K R a0 I x1 (0 : Int32)
def f_X2_readHead (F : Nat) (K : zK) (I : zI) (R : zR) (a0 : Nat)  : Option (Int32 × zI) :=
  zbd (f_X2_byteAt F K I R a0 (I a0 2)) fun v73 =>
  if v73 < (97 : Int32) then
    f_X2_readHead_25 F K R a0 I v73
  else
    if (110 : Int32) ≤ v73 then
      f_X2_readHead_25 F K R a0 I v73
    else
      f_X2_readHead_26 F K R a0 I v73 (1 : Int32)
section
variable {p : Program} {l : Launch} {e : Env} {s : State} {m : MethodId} {args : Array Value} {below : List Frame} {meth : Method} {c : Code} {D : zD} {B n n0 n' fd ld : Nat} {K K0 K' : zK} {I I' : zI} {R R' : zR} {H : Heap} {locs : List Loc} {ls : Array Slot} {r : Int32}
set_option maxRecDepth 100000 in
set_option maxHeartbeats 4000000 in
theorem w_X2_readHead_209 {F : Nat} {a0 : Nat}  (X : zX p s m c cX2_readHead 7 RX2 D) (hr : meth.sig.returnType = some .boolean) (hlk : meth.locks = false) (hK0 : (K a0).1 = 12)  {x4 : Int32} {x5 : Int32} {x6 : Int32} (hf : f_X2_readHead_209 F K R a0  I x4 x5 x6 = some (r, I')) (hW : zS (zOwn B K (B + n)) D B n K I R s.heap H locs) (hl : lv_has ls 7 [(0, .ref (B + a0)), (4, .int x4), (5, .int x5), (6, .int x6)]) : W p l e ({ frames := 3, cells := 0, slots := 0, locals := 83 } : Room) s m args below meth c H locs 0 0 (MQ below (zQi D (zOwn B K (B + n)) r B n K I' R) args s 0 0 (zOwn B K (B + n))) (F0 m 209 ls []) := by
  unfold f_X2_readHead_209 at hf
  refine lv_aload_n X.1 X.2.1 dX2_readHead_209 rfl (lv_at hl 0 rfl) ?_
  refine ze_gtR X 2 4 28 (RX2, TX2, 9) rfl hf hW hK0 rfl (by decide) kfl_X2_28 dX2_readHead_210 (fun o1 hg => ?_)
  replace hf := hg
  refine lv_iload X.1 X.2.1 dX2_readHead_213 (lv_at hl 1 rfl) ?_
  obtain ⟨a2, rfl, k4, hg⟩ := zh_dr hf
  replace hf := hg
  obtain ⟨I5, h6, hg⟩ := zh_bd hf
  replace hf := hg
  refine ze_aftV0 (ze_runV (As := [.int x4]) (rest := []) X 5 82 (c_X5_countArgument l D B n k4 h6) vX5_countArgument kml_X2_82 hW k4 rfl rfl ⟨by decide, by decide⟩ rfl hl.1 rfl (Nat.le_of_ble_eq_true rfl) ⟨Nat.le_refl _, Nat.le_refl _⟩ dX2_readHead_215) hW (fun H locs hV => ?_)
  replace hW := hV
  refine lv_aload_n X.1 X.2.1 dX2_readHead_218 rfl (lv_at hl 0 rfl) ?_
  refine ze_gtR X 2 4 28 (RX2, TX2, 9) rfl hf hW hK0 rfl (by decide) kfl_X2_28 dX2_readHead_219 (fun o7 hg => ?_)
  replace hf := hg
  refine lv_iload X.1 X.2.1 dX2_readHead_222 (lv_at hl 3 rfl) ?_
  refine lv_iconst (v := 4) X.1 X.2.1 dX2_readHead_224 (by decide) ?_
  refine lv_ishl X.1 X.2.1 dX2_readHead_225 ?_
  refine lv_iload X.1 X.2.1 dX2_readHead_226 (lv_at hl 2 rfl) ?_
  refine lv_ior X.1 X.2.1 dX2_readHead_228 ?_
  refine lv_iconst (v := 0) X.1 X.2.1 dX2_readHead_229 (by decide) ?_
  obtain ⟨a8, rfl, k10, hg⟩ := zh_dr hf
  replace hf := hg
  obtain ⟨v11, I12, h13, hg⟩ := zh_bd2 hf
  replace hf := hg
  refine ze_aftI0 (ze_runV (As := [.int ((x6 <<< ((4 : Int32) &&& 31)) ||| x5), .int (0 : Int32)]) (rest := []) X 5 86 (c_X5_append l D B n k10 h13) vX5_append kml_X2_86 hW k10 rfl rfl ⟨by decide, by decide⟩ rfl hl.1 rfl (Nat.le_of_ble_eq_true rfl) ⟨Nat.le_refl _, Nat.le_refl _⟩ dX2_readHead_230) hW (fun H locs hV => ?_)
  replace hW := hV
  refine lv_pop X.1 X.2.1 dX2_readHead_233 rfl ?_
  refine lv_aload_n X.1 X.2.1 dX2_readHead_234 rfl (lv_at hl 0 rfl) ?_
  refine lv_dup X.1 X.2.1 dX2_readHead_235 rfl ?_
  refine ze_getI X 2 2 19 (RX2, TX2, 9) rfl hW hK0 rfl (by decide) kfl_X2_19 dX2_readHead_236 ?_
  refine lv_iload X.1 X.2.1 dX2_readHead_239 (lv_at hl 3 rfl) ?_
  refine lv_iconst (v := 3) X.1 X.2.1 dX2_readHead_241 (by decide) ?_
  refine lv_icmp_ne (tgt := 249) X.1 X.2.1 dX2_readHead_242 (by decide) (fun c14 => ?_) (fun c14 => ?_)
  · replace hf := zif_neg c14 hf
    refine lv_iconst (v := 1) X.1 X.2.1 dX2_readHead_249 (by decide) ?_
    refine lv_iadd X.1 X.2.1 dX2_readHead_250 ?_
    refine ze_putI X 2 2 19 (RX2, TX2, 9) rfl hf hW hK0 rfl (by decide) kfl_X2_19 rfl (by decide +kernel) dX2_readHead_251 (fun I15 H locs hg hV => ?_)
    replace hf := hg
    replace hW := hV
    refine lv_iconst (v := 1) X.1 X.2.1 dX2_readHead_254 (by decide) ?_
    obtain ⟨rfl, rfl⟩ := zi2 hf
    exact ze_retZ X hr hlk (by decide) hW (Nat.le_refl _) (Nat.le_refl _) dX2_readHead_255
  · replace hf := zif_pos c14 hf
    refine lv_iconst (v := 2) X.1 X.2.1 dX2_readHead_245 (by decide) ?_
    refine lv_goto (tgt := 250) X.1 X.2.1 dX2_readHead_246 (by decide) ?_
    refine lv_iadd X.1 X.2.1 dX2_readHead_250 ?_
    refine ze_putI X 2 2 19 (RX2, TX2, 9) rfl hf hW hK0 rfl (by decide) kfl_X2_19 rfl (by decide +kernel) dX2_readHead_251 (fun I16 H locs hg hV => ?_)
    replace hf := hg
    replace hW := hV
    refine lv_iconst (v := 1) X.1 X.2.1 dX2_readHead_254 (by decide) ?_
    obtain ⟨rfl, rfl⟩ := zi2 hf
    exact ze_retZ X hr hlk (by decide) hW (Nat.le_refl _) (Nat.le_refl _) dX2_readHead_255
set_option maxRecDepth 100000 in
set_option maxHeartbeats 4000000 in
theorem w_X2_readHead_186 {F : Nat} {a0 : Nat}  (X : zX p s m c cX2_readHead 7 RX2 D) (hr : meth.sig.returnType = some .boolean) (hlk : meth.locks = false) (hK0 : (K a0).1 = 12)  {x3 : Int32} {x4 : Int32} {x5 : Int32} {s0 : Int32} (hf : f_X2_readHead_186 F K R a0  I x3 x4 x5 s0 = some (r, I')) (hW : zS (zOwn B K (B + n)) D B n K I R s.heap H locs) (hl : lv_has ls 7 [(0, .ref (B + a0)), (3, .int x3), (4, .int x4), (5, .int x5)]) : W p l e ({ frames := 3, cells := 0, slots := 0, locals := 83 } : Room) s m args below meth c H locs 0 0 (MQ below (zQi D (zOwn B K (B + n)) r B n K I' R) args s 0 0 (zOwn B K (B + n))) (F0 m 186 ls [.int s0]) := by
  unfold f_X2_readHead_186 at hf
  refine lv_istore (lv' := [(6, .int s0), (0, .ref (B + a0)), (3, .int x3), (4, .int x4), (5, .int x5)]) X.1 X.2.1 dX2_readHead_186 hl (by decide) rfl (fun ls hk => ?_)
  replace hl := hk
  refine lv_iload_n X.1 X.2.1 dX2_readHead_188 rfl (lv_at hl 2 rfl) ?_
  refine lv_if_eq (tgt := 209) X.1 X.2.1 dX2_readHead_189 (by decide) (fun c17 => ?_) (fun c17 => ?_)
  · replace hf := zif_pos c17 hf
    exact w_X2_readHead_209 X hr hlk hK0 hf hW (lv_sub hl [1, 3, 4, 0] rfl)
  · replace hf := zif_neg c17 hf
    refine lv_aload_n X.1 X.2.1 dX2_readHead_192 rfl (lv_at hl 1 rfl) ?_
    refine lv_iload X.1 X.2.1 dX2_readHead_193 (lv_at hl 4 rfl) ?_
    refine lv_iload X.1 X.2.1 dX2_readHead_195 (lv_at hl 0 rfl) ?_
    obtain ⟨v18, I19, h20, hg⟩ := zh_bd2 hf
    replace hf := hg
    refine ze_aftI0 (ze_runV (As := [.int x5, .int s0]) (rest := []) X 2 78 (c_X2_takeHole l D B n hK0 h20) vX2_takeHole kml_X2_78 hW hK0 rfl rfl ⟨by decide, by decide⟩ rfl hl.1 rfl (Nat.le_of_ble_eq_true rfl) ⟨Nat.le_refl _, Nat.le_refl _⟩ dX2_readHead_197) hW (fun H locs hV => ?_)
    replace hW := hV
    refine lv_if_ne (tgt := 209) X.1 X.2.1 dX2_readHead_200 (by decide) (fun c21 => ?_) (fun c21 => ?_)
    · replace hf := zif_neg c21 hf
      exact w_X2_readHead_209 X hr hlk hK0 hf hW (lv_sub hl [1, 3, 4, 0] rfl)
    · replace hf := zif_pos c21 hf
      refine lv_aload_n X.1 X.2.1 dX2_readHead_203 rfl (lv_at hl 1 rfl) ?_
      refine lv_iconst (v := 4) X.1 X.2.1 dX2_readHead_204 (by decide) ?_
      obtain ⟨v22, I23, h24, hg⟩ := zh_bd2 hf
      replace hf := hg
      refine ze_aftI0 (ze_runV (As := [.int (4 : Int32)]) (rest := []) X 2 65 (c_X2_faulty l D B n hK0 h24) vX2_faulty kml_X2_65 hW hK0 rfl rfl ⟨by decide, by decide⟩ rfl hl.1 rfl (Nat.le_of_ble_eq_true rfl) ⟨Nat.le_refl _, Nat.le_refl _⟩ dX2_readHead_205) hW (fun H locs hV => ?_)
      replace hW := hV
      obtain ⟨hv25, hg⟩ := zh_if hf
      replace hf := hg
      obtain ⟨rfl, rfl⟩ := zi2 hf
      exact ze_retZ X hr hlk hv25 hW (Nat.le_refl _) (Nat.le_refl _) dX2_readHead_208
set_option maxRecDepth 100000 in
set_option maxHeartbeats 4000000 in
theorem w_X2_readHead_162 {F : Nat} {a0 : Nat}  (X : zX p s m c cX2_readHead 7 RX2 D) (hr : meth.sig.returnType = some .boolean) (hlk : meth.locks = false) (hK0 : (K a0).1 = 12)  {x2 : Int32} {x3 : Int32} {x4 : Int32} {s0 : Int32} (hf : f_X2_readHead_162 F K R a0  I x2 x3 x4 s0 = some (r, I')) (hW : zS (zOwn B K (B + n)) D B n K I R s.heap H locs) (hl : lv_has ls 7 [(0, .ref (B + a0)), (2, .int x2), (3, .int x3), (4, .int x4)]) : W p l e ({ frames := 3, cells := 0, slots := 0, locals := 83 } : Room) s m args below meth c H locs 0 0 (MQ below (zQi D (zOwn B K (B + n)) r B n K I' R) args s 0 0 (zOwn B K (B + n))) (F0 m 162 ls [.int s0]) := by
  unfold f_X2_readHead_162 at hf
  refine lv_istore (lv' := [(5, .int s0), (0, .ref (B + a0)), (2, .int x2), (3, .int x3), (4, .int x4)]) X.1 X.2.1 dX2_readHead_162 hl (by decide) rfl (fun ls hk => ?_)
  replace hl := hk
  refine lv_iload_n X.1 X.2.1 dX2_readHead_164 rfl (lv_at hl 2 rfl) ?_
  refine lv_if_eq (tgt := 172) X.1 X.2.1 dX2_readHead_165 (by decide) (fun c26 => ?_) (fun c26 => ?_)
  · replace hf := zif_pos c26 hf
    refine lv_aload_n X.1 X.2.1 dX2_readHead_172 rfl (lv_at hl 1 rfl) ?_
    refine lv_aload_n X.1 X.2.1 dX2_readHead_173 rfl (lv_at hl 1 rfl) ?_
    refine lv_aload_n X.1 X.2.1 dX2_readHead_174 rfl (lv_at hl 1 rfl) ?_
    refine ze_getI X 2 2 19 (RX2, TX2, 9) rfl hW hK0 rfl (by decide) kfl_X2_19 dX2_readHead_175 ?_
    refine lv_iconst (v := 1) X.1 X.2.1 dX2_readHead_178 (by decide) ?_
    refine lv_iadd X.1 X.2.1 dX2_readHead_179 ?_
    obtain ⟨v27, h28, hg⟩ := zh_bd hf
    replace hf := hg
    refine ze_aftI0 (ze_runV (As := [.int ((I a0 2) + (1 : Int32))]) (rest := [.ref (B + a0)]) X 2 61 (c_X2_byteAt l D B n hK0 h28) vX2_byteAt kml_X2_61 hW hK0 rfl rfl ⟨by decide, by decide⟩ rfl hl.1 rfl (Nat.le_of_ble_eq_true rfl) ⟨Nat.le_refl _, Nat.le_refl _⟩ dX2_readHead_180) hW (fun H locs hV => ?_)
    replace hW := hV
    obtain ⟨v29, h30, hg⟩ := zh_bd hf
    replace hf := hg
    refine ze_aftI0 (ze_runV (As := [.int v27]) (rest := []) X 2 75 (c_X2_holeSort l D B n hK0 h30) vX2_holeSort kml_X2_75 hW hK0 rfl rfl ⟨by decide, by decide⟩ rfl hl.1 rfl (Nat.le_of_ble_eq_true rfl) ⟨Nat.le_refl _, Nat.le_refl _⟩ dX2_readHead_183) hW (fun H locs hV => ?_)
    replace hW := hV
    exact w_X2_readHead_186 X hr hlk hK0 hf hW (lv_sub hl [1, 3, 4, 0] rfl)
  · replace hf := zif_neg c26 hf
    refine lv_iconst (v := 0) X.1 X.2.1 dX2_readHead_168 (by decide) ?_
    refine lv_goto (tgt := 186) X.1 X.2.1 dX2_readHead_169 (by decide) ?_
    exact w_X2_readHead_186 X hr hlk hK0 hf hW (lv_sub hl [1, 3, 4, 0] rfl)
set_option maxRecDepth 100000 in
set_option maxHeartbeats 4000000 in
theorem w_X2_readHead_141 {F : Nat} {a0 : Nat}  (X : zX p s m c cX2_readHead 7 RX2 D) (hr : meth.sig.returnType = some .boolean) (hlk : meth.locks = false) (hK0 : (K a0).1 = 12)   (hf : f_X2_readHead_141 F K R a0  I = some (r, I')) (hW : zS (zOwn B K (B + n)) D B n K I R s.heap H locs) (hl : lv_has ls 7 [(0, .ref (B + a0))]) : W p l e ({ frames := 3, cells := 0, slots := 0, locals := 83 } : Room) s m args below meth c H locs 0 0 (MQ below (zQi D (zOwn B K (B + n)) r B n K I' R) args s 0 0 (zOwn B K (B + n))) (F0 m 141 ls []) := by
  unfold f_X2_readHead_141 at hf
  refine lv_aload_n X.1 X.2.1 dX2_readHead_141 rfl (lv_at hl 0 rfl) ?_
  refine lv_iconst (v := 3) X.1 X.2.1 dX2_readHead_142 (by decide) ?_
  obtain ⟨v31, I32, h33, hg⟩ := zh_bd2 hf
  replace hf := hg
  refine ze_aftI0 (ze_runV (As := [.int (3 : Int32)]) (rest := []) X 2 65 (c_X2_faulty l D B n hK0 h33) vX2_faulty kml_X2_65 hW hK0 rfl rfl ⟨by decide, by decide⟩ rfl hl.1 rfl (Nat.le_of_ble_eq_true rfl) ⟨Nat.le_refl _, Nat.le_refl _⟩ dX2_readHead_143) hW (fun H locs hV => ?_)
  replace hW := hV
  obtain ⟨hv34, hg⟩ := zh_if hf
  replace hf := hg
  obtain ⟨rfl, rfl⟩ := zi2 hf
  exact ze_retZ X hr hlk hv34 hW (Nat.le_refl _) (Nat.le_refl _) dX2_readHead_146
set_option maxRecDepth 100000 in
set_option maxHeartbeats 4000000 in
theorem w_X2_readHead_120 {F : Nat} {a0 : Nat}  (X : zX p s m c cX2_readHead 7 RX2 D) (hr : meth.sig.returnType = some .boolean) (hlk : meth.locks = false) (hK0 : (K a0).1 = 12)  {x1 : Int32} {x2 : Int32} {x3 : Int32} {x4 : Int32} (hf : f_X2_readHead_120 F K R a0  I x1 x2 x3 x4 = some (r, I')) (hW : zS (zOwn B K (B + n)) D B n K I R s.heap H locs) (hl : lv_has ls 7 [(0, .ref (B + a0)), (1, .int x1), (2, .int x2), (3, .int x3), (4, .int x4)]) : W p l e ({ frames := 3, cells := 0, slots := 0, locals := 83 } : Room) s m args below meth c H locs 0 0 (MQ below (zQi D (zOwn B K (B + n)) r B n K I' R) args s 0 0 (zOwn B K (B + n))) (F0 m 120 ls []) := by
  unfold f_X2_readHead_120 at hf
  refine lv_aload_n X.1 X.2.1 dX2_readHead_120 rfl (lv_at hl 0 rfl) ?_
  refine ze_gtR X 2 4 28 (RX2, TX2, 9) rfl hf hW hK0 rfl (by decide) kfl_X2_28 dX2_readHead_121 (fun o35 hg => ?_)
  replace hf := hg
  obtain ⟨a36, rfl, k38, hg⟩ := zh_dr hf
  replace hf := hg
  refine ze_getIN X 5 3 72 (RX5, TX5, 4) rfl hW k38 rfl (by decide) kfl_X2_72 dX2_readHead_124 ?_
  refine lv_bipush (v := 32) X.1 X.2.1 dX2_readHead_127 (by decide) ?_
  refine lv_icmp_ge (tgt := 141) X.1 X.2.1 dX2_readHead_129 (by decide) (fun c39 => ?_) (fun c39 => ?_)
  · replace hf := zif_pos c39 hf
    exact w_X2_readHead_141 X hr hlk hK0 hf hW (lv_sub hl [0] rfl)
  · replace hf := zif_neg c39 hf
    refine lv_aload_n X.1 X.2.1 dX2_readHead_132 rfl (lv_at hl 0 rfl) ?_
    refine ze_getI X 2 5 32 (RX2, TX2, 9) rfl hW hK0 rfl (by decide) kfl_X2_32 dX2_readHead_133 ?_
    refine lv_bipush (v := 7) X.1 X.2.1 dX2_readHead_136 (by decide) ?_
    refine lv_icmp_le (tgt := 147) X.1 X.2.1 dX2_readHead_138 (by decide) (fun c40 => ?_) (fun c40 => ?_)
    · replace hf := zif_pos c40 hf
      refine lv_iload_n X.1 X.2.1 dX2_readHead_147 rfl (lv_at hl 2 rfl) ?_
      refine lv_if_eq (tgt := 158) X.1 X.2.1 dX2_readHead_148 (by decide) (fun c41 => ?_) (fun c41 => ?_)
      · replace hf := zif_pos c41 hf
        refine lv_iload_n X.1 X.2.1 dX2_readHead_158 rfl (lv_at hl 1 rfl) ?_
        refine lv_bipush (v := 48) X.1 X.2.1 dX2_readHead_159 (by decide) ?_
        refine lv_isub X.1 X.2.1 dX2_readHead_161 ?_
        exact w_X2_readHead_162 X hr hlk hK0 hf hW (lv_sub hl [0, 2, 3, 4] rfl)
      · replace hf := zif_neg c41 hf
        refine lv_iload_n X.1 X.2.1 dX2_readHead_151 rfl (lv_at hl 1 rfl) ?_
        refine lv_bipush (v := 97) X.1 X.2.1 dX2_readHead_152 (by decide) ?_
        refine lv_isub X.1 X.2.1 dX2_readHead_154 ?_
        refine lv_goto (tgt := 162) X.1 X.2.1 dX2_readHead_155 (by decide) ?_
        exact w_X2_readHead_162 X hr hlk hK0 hf hW (lv_sub hl [0, 2, 3, 4] rfl)
    · replace hf := zif_neg c40 hf
      exact w_X2_readHead_141 X hr hlk hK0 hf hW (lv_sub hl [0] rfl)
set_option maxRecDepth 100000 in
set_option maxHeartbeats 4000000 in
theorem w_X2_readHead_93 {F : Nat} {a0 : Nat}  (X : zX p s m c cX2_readHead 7 RX2 D) (hr : meth.sig.returnType = some .boolean) (hlk : meth.locks = false) (hK0 : (K a0).1 = 12)  {x1 : Int32} {x2 : Int32} {x3 : Int32} {s0 : Int32} (hf : f_X2_readHead_93 F K R a0  I x1 x2 x3 s0 = some (r, I')) (hW : zS (zOwn B K (B + n)) D B n K I R s.heap H locs) (hl : lv_has ls 7 [(0, .ref (B + a0)), (1, .int x1), (2, .int x2), (3, .int x3)]) : W p l e ({ frames := 3, cells := 0, slots := 0, locals := 83 } : Room) s m args below meth c H locs 0 0 (MQ below (zQi D (zOwn B K (B + n)) r B n K I' R) args s 0 0 (zOwn B K (B + n))) (F0 m 93 ls [.int s0]) := by
  unfold f_X2_readHead_93 at hf
  refine lv_istore (lv' := [(4, .int s0), (0, .ref (B + a0)), (1, .int x1), (2, .int x2), (3, .int x3)]) X.1 X.2.1 dX2_readHead_93 hl (by decide) rfl (fun ls hk => ?_)
  replace hl := hk
  refine lv_iload X.1 X.2.1 dX2_readHead_95 (lv_at hl 0 rfl) ?_
  refine lv_if_lt (tgt := 120) X.1 X.2.1 dX2_readHead_97 (by decide) (fun c42 => ?_) (fun c42 => ?_)
  · replace hf := zif_pos c42 hf
    exact w_X2_readHead_120 X hr hlk hK0 hf hW (lv_sub hl [1, 2, 3, 4, 0] rfl)
  · replace hf := zif_neg c42 hf
    refine lv_aload_n X.1 X.2.1 dX2_readHead_100 rfl (lv_at hl 1 rfl) ?_
    refine ze_gtR X 2 4 28 (RX2, TX2, 9) rfl hf hW hK0 rfl (by decide) kfl_X2_28 dX2_readHead_101 (fun o43 hg => ?_)
    replace hf := hg
    refine lv_iload X.1 X.2.1 dX2_readHead_104 (lv_at hl 0 rfl) ?_
    obtain ⟨a44, rfl, k46, hg⟩ := zh_dr hf
    replace hf := hg
    obtain ⟨v47, h48, hg⟩ := zh_bd hf
    replace hf := hg
    refine ze_aftI0 (ze_runV (As := [.int s0]) (rest := []) X 5 69 (c_X5_argumentsOf l D B n k46 h48) vX5_argumentsOf kml_X2_69 hW k46 rfl rfl ⟨by decide, by decide⟩ rfl hl.1 rfl (Nat.le_of_ble_eq_true rfl) ⟨Nat.le_refl _, Nat.le_refl _⟩ dX2_readHead_106) hW (fun H locs hV => ?_)
    replace hW := hV
    refine lv_bipush (v := 8) X.1 X.2.1 dX2_readHead_109 (by decide) ?_
    refine lv_icmp_lt (tgt := 120) X.1 X.2.1 dX2_readHead_111 (by decide) (fun c49 => ?_) (fun c49 => ?_)
    · replace hf := zif_pos c49 hf
      exact w_X2_readHead_120 X hr hlk hK0 hf hW (lv_sub hl [1, 2, 3, 4, 0] rfl)
    · replace hf := zif_neg c49 hf
      refine lv_aload_n X.1 X.2.1 dX2_readHead_114 rfl (lv_at hl 1 rfl) ?_
      refine lv_iconst (v := 2) X.1 X.2.1 dX2_readHead_115 (by decide) ?_
      obtain ⟨v50, I51, h52, hg⟩ := zh_bd2 hf
      replace hf := hg
      refine ze_aftI0 (ze_runV (As := [.int (2 : Int32)]) (rest := []) X 2 65 (c_X2_faulty l D B n hK0 h52) vX2_faulty kml_X2_65 hW hK0 rfl rfl ⟨by decide, by decide⟩ rfl hl.1 rfl (Nat.le_of_ble_eq_true rfl) ⟨Nat.le_refl _, Nat.le_refl _⟩ dX2_readHead_116) hW (fun H locs hV => ?_)
      replace hW := hV
      obtain ⟨hv53, hg⟩ := zh_if hf
      replace hf := hg
      obtain ⟨rfl, rfl⟩ := zi2 hf
      exact ze_retZ X hr hlk hv53 hW (Nat.le_refl _) (Nat.le_refl _) dX2_readHead_119
set_option maxRecDepth 100000 in
set_option maxHeartbeats 4000000 in
theorem w_X2_readHead_92 {F : Nat} {a0 : Nat}  (X : zX p s m c cX2_readHead 7 RX2 D) (hr : meth.sig.returnType = some .boolean) (hlk : meth.locks = false) (hK0 : (K a0).1 = 12)  {x1 : Int32} {x2 : Int32} {x3 : Int32} (hf : f_X2_readHead_92 F K R a0  I x1 x2 x3 = some (r, I')) (hW : zS (zOwn B K (B + n)) D B n K I R s.heap H locs) (hl : lv_has ls 7 [(0, .ref (B + a0)), (1, .int x1), (2, .int x2), (3, .int x3)]) : W p l e ({ frames := 3, cells := 0, slots := 0, locals := 83 } : Room) s m args below meth c H locs 0 0 (MQ below (zQi D (zOwn B K (B + n)) r B n K I' R) args s 0 0 (zOwn B K (B + n))) (F0 m 92 ls []) := by
  unfold f_X2_readHead_92 at hf
  refine lv_iconst (v := -1) X.1 X.2.1 dX2_readHead_92 (by decide) ?_
  exact w_X2_readHead_93 X hr hlk hK0 hf hW hl
set_option maxRecDepth 100000 in
set_option maxHeartbeats 4000000 in
theorem w_X2_readHead_59 {F : Nat} {a0 : Nat}  (X : zX p s m c cX2_readHead 7 RX2 D) (hr : meth.sig.returnType = some .boolean) (hlk : meth.locks = false) (hK0 : (K a0).1 = 12)  {x1 : Int32} {x2 : Int32} {x3 : Int32} (hf : f_X2_readHead_59 F K R a0  I x1 x2 x3 = some (r, I')) (hW : zS (zOwn B K (B + n)) D B n K I R s.heap H locs) (hl : lv_has ls 7 [(0, .ref (B + a0)), (1, .int x1), (2, .int x2), (3, .int x3)]) : W p l e ({ frames := 3, cells := 0, slots := 0, locals := 83 } : Room) s m args below meth c H locs 0 0 (MQ below (zQi D (zOwn B K (B + n)) r B n K I' R) args s 0 0 (zOwn B K (B + n))) (F0 m 59 ls []) := by
  unfold f_X2_readHead_59 at hf
  refine lv_aload_n X.1 X.2.1 dX2_readHead_59 rfl (lv_at hl 0 rfl) ?_
  refine ze_getI X 2 5 32 (RX2, TX2, 9) rfl hW hK0 rfl (by decide) kfl_X2_32 dX2_readHead_60 ?_
  refine lv_if_le (tgt := 92) X.1 X.2.1 dX2_readHead_63 (by decide) (fun c54 => ?_) (fun c54 => ?_)
  · replace hf := zif_pos c54 hf
    exact w_X2_readHead_92 X hr hlk hK0 hf hW hl
  · replace hf := zif_neg c54 hf
    refine lv_aload_n X.1 X.2.1 dX2_readHead_66 rfl (lv_at hl 0 rfl) ?_
    refine ze_getI X 2 5 32 (RX2, TX2, 9) rfl hW hK0 rfl (by decide) kfl_X2_32 dX2_readHead_67 ?_
    refine lv_aload_n X.1 X.2.1 dX2_readHead_70 rfl (lv_at hl 0 rfl) ?_
    refine ze_gtR X 2 6 35 (RX2, TX2, 9) rfl hf hW hK0 rfl (by decide) kfl_X2_35 dX2_readHead_71 (fun o55 hg => ?_)
    replace hf := hg
    obtain ⟨a56, rfl, k58, hg⟩ := zh_dr hf
    replace hf := hg
    refine ze_alen X 1 (by decide) hW k58 dX2_readHead_74 ?_
    refine lv_icmp_gt (tgt := 92) X.1 X.2.1 dX2_readHead_75 (by decide) (fun c59 => ?_) (fun c59 => ?_)
    · replace hf := zif_pos c59 hf
      exact w_X2_readHead_92 X hr hlk hK0 hf hW hl
    · replace hf := zif_neg c59 hf
      refine lv_aload_n X.1 X.2.1 dX2_readHead_78 rfl (lv_at hl 0 rfl) ?_
      refine ze_gtR X 2 6 35 (RX2, TX2, 9) rfl hf hW hK0 rfl (by decide) kfl_X2_35 dX2_readHead_79 (fun o60 hg => ?_)
      replace hf := hg
      refine lv_aload_n X.1 X.2.1 dX2_readHead_82 rfl (lv_at hl 0 rfl) ?_
      refine ze_getI X 2 5 32 (RX2, TX2, 9) rfl hW hK0 rfl (by decide) kfl_X2_32 dX2_readHead_83 ?_
      refine lv_iconst (v := 1) X.1 X.2.1 dX2_readHead_86 (by decide) ?_
      refine lv_isub X.1 X.2.1 dX2_readHead_87 ?_
      obtain ⟨a61, rfl, k63, hg⟩ := zh_dr hf
      replace hf := hg
      refine ze_iald X hf hW k63 dX2_readHead_88 (fun v64 hg => ?_)
      replace hf := hg
      refine lv_goto (tgt := 93) X.1 X.2.1 dX2_readHead_89 (by decide) ?_
      exact w_X2_readHead_93 X hr hlk hK0 hf hW hl
set_option maxRecDepth 100000 in
set_option maxHeartbeats 4000000 in
theorem w_X2_readHead_44 {F : Nat} {a0 : Nat}  (X : zX p s m c cX2_readHead 7 RX2 D) (hr : meth.sig.returnType = some .boolean) (hlk : meth.locks = false) (hK0 : (K a0).1 = 12)  {x1 : Int32} {x2 : Int32} {s0 : Int32} (hf : f_X2_readHead_44 F K R a0  I x1 x2 s0 = some (r, I')) (hW : zS (zOwn B K (B + n)) D B n K I R s.heap H locs) (hl : lv_has ls 7 [(0, .ref (B + a0)), (1, .int x1), (2, .int x2)]) : W p l e ({ frames := 3, cells := 0, slots := 0, locals := 83 } : Room) s m args below meth c H locs 0 0 (MQ below (zQi D (zOwn B K (B + n)) r B n K I' R) args s 0 0 (zOwn B K (B + n))) (F0 m 44 ls [.int s0]) := by
  unfold f_X2_readHead_44 at hf
  refine lv_istore_n (i := 3) (lv' := [(3, .int s0), (0, .ref (B + a0)), (1, .int x1), (2, .int x2)]) X.1 X.2.1 dX2_readHead_44 rfl hl (by decide) rfl (fun ls hk => ?_)
  replace hl := hk
  refine lv_iload_n X.1 X.2.1 dX2_readHead_45 rfl (lv_at hl 3 rfl) ?_
  refine lv_if_ne (tgt := 59) X.1 X.2.1 dX2_readHead_46 (by decide) (fun c65 => ?_) (fun c65 => ?_)
  · replace hf := zif_neg c65 hf
    exact w_X2_readHead_59 X hr hlk hK0 hf hW (lv_sub hl [1, 2, 3, 0] rfl)
  · replace hf := zif_pos c65 hf
    refine lv_iload_n X.1 X.2.1 dX2_readHead_49 rfl (lv_at hl 0 rfl) ?_
    refine lv_if_ne (tgt := 59) X.1 X.2.1 dX2_readHead_50 (by decide) (fun c66 => ?_) (fun c66 => ?_)
    · replace hf := zif_neg c66 hf
      exact w_X2_readHead_59 X hr hlk hK0 hf hW (lv_sub hl [1, 2, 3, 0] rfl)
    · replace hf := zif_pos c66 hf
      refine lv_aload_n X.1 X.2.1 dX2_readHead_53 rfl (lv_at hl 1 rfl) ?_
      refine lv_iconst (v := 1) X.1 X.2.1 dX2_readHead_54 (by decide) ?_
      obtain ⟨v67, I68, h69, hg⟩ := zh_bd2 hf
      replace hf := hg
      refine ze_aftI0 (ze_runV (As := [.int (1 : Int32)]) (rest := []) X 2 65 (c_X2_faulty l D B n hK0 h69) vX2_faulty kml_X2_65 hW hK0 rfl rfl ⟨by decide, by decide⟩ rfl hl.1 rfl (Nat.le_of_ble_eq_true rfl) ⟨Nat.le_refl _, Nat.le_refl _⟩ dX2_readHead_55) hW (fun H locs hV => ?_)
      replace hW := hV
      obtain ⟨hv70, hg⟩ := zh_if hf
      replace hf := hg
      obtain ⟨rfl, rfl⟩ := zi2 hf
      exact ze_retZ X hr hlk hv70 hW (Nat.le_refl _) (Nat.le_refl _) dX2_readHead_58
set_option maxRecDepth 100000 in
set_option maxHeartbeats 4000000 in
theorem w_X2_readHead_43 {F : Nat} {a0 : Nat}  (X : zX p s m c cX2_readHead 7 RX2 D) (hr : meth.sig.returnType = some .boolean) (hlk : meth.locks = false) (hK0 : (K a0).1 = 12)  {x1 : Int32} {x2 : Int32} (hf : f_X2_readHead_43 F K R a0  I x1 x2 = some (r, I')) (hW : zS (zOwn B K (B + n)) D B n K I R s.heap H locs) (hl : lv_has ls 7 [(0, .ref (B + a0)), (1, .int x1), (2, .int x2)]) : W p l e ({ frames := 3, cells := 0, slots := 0, locals := 83 } : Room) s m args below meth c H locs 0 0 (MQ below (zQi D (zOwn B K (B + n)) r B n K I' R) args s 0 0 (zOwn B K (B + n))) (F0 m 43 ls []) := by
  unfold f_X2_readHead_43 at hf
  refine lv_iconst (v := 0) X.1 X.2.1 dX2_readHead_43 (by decide) ?_
  exact w_X2_readHead_44 X hr hlk hK0 hf hW hl
set_option maxRecDepth 100000 in
set_option maxHeartbeats 4000000 in
theorem w_X2_readHead_26 {F : Nat} {a0 : Nat}  (X : zX p s m c cX2_readHead 7 RX2 D) (hr : meth.sig.returnType = some .boolean) (hlk : meth.locks = false) (hK0 : (K a0).1 = 12)  {x1 : Int32} {s0 : Int32} (hf : f_X2_readHead_26 F K R a0  I x1 s0 = some (r, I')) (hW : zS (zOwn B K (B + n)) D B n K I R s.heap H locs) (hl : lv_has ls 7 [(0, .ref (B + a0)), (1, .int x1)]) : W p l e ({ frames := 3, cells := 0, slots := 0, locals := 83 } : Room) s m args below meth c H locs 0 0 (MQ below (zQi D (zOwn B K (B + n)) r B n K I' R) args s 0 0 (zOwn B K (B + n))) (F0 m 26 ls [.int s0]) := by
  unfold f_X2_readHead_26 at hf
  refine lv_istore_n (i := 2) (lv' := [(2, .int s0), (0, .ref (B + a0)), (1, .int x1)]) X.1 X.2.1 dX2_readHead_26 rfl hl (by decide) rfl (fun ls hk => ?_)
  replace hl := hk
  refine lv_iload_n X.1 X.2.1 dX2_readHead_27 rfl (lv_at hl 2 rfl) ?_
  refine lv_bipush (v := 48) X.1 X.2.1 dX2_readHead_28 (by decide) ?_
  refine lv_icmp_lt (tgt := 43) X.1 X.2.1 dX2_readHead_30 (by decide) (fun c71 => ?_) (fun c71 => ?_)
  · replace hf := zif_pos c71 hf
    exact w_X2_readHead_43 X hr hlk hK0 hf hW (lv_sub hl [1, 2, 0] rfl)
  · replace hf := zif_neg c71 hf
    refine lv_iload_n X.1 X.2.1 dX2_readHead_33 rfl (lv_at hl 2 rfl) ?_
    refine lv_bipush (v := 57) X.1 X.2.1 dX2_readHead_34 (by decide) ?_
    refine lv_icmp_gt (tgt := 43) X.1 X.2.1 dX2_readHead_36 (by decide) (fun c72 => ?_) (fun c72 => ?_)
    · replace hf := zif_pos c72 hf
      exact w_X2_readHead_43 X hr hlk hK0 hf hW (lv_sub hl [1, 2, 0] rfl)
    · replace hf := zif_neg c72 hf
      refine lv_iconst (v := 1) X.1 X.2.1 dX2_readHead_39 (by decide) ?_
      refine lv_goto (tgt := 44) X.1 X.2.1 dX2_readHead_40 (by decide) ?_
      exact w_X2_readHead_44 X hr hlk hK0 hf hW (lv_sub hl [1, 2, 0] rfl)
set_option maxRecDepth 100000 in
set_option maxHeartbeats 4000000 in
theorem w_X2_readHead_25 {F : Nat} {a0 : Nat}  (X : zX p s m c cX2_readHead 7 RX2 D) (hr : meth.sig.returnType = some .boolean) (hlk : meth.locks = false) (hK0 : (K a0).1 = 12)  {x1 : Int32} (hf : f_X2_readHead_25 F K R a0  I x1 = some (r, I')) (hW : zS (zOwn B K (B + n)) D B n K I R s.heap H locs) (hl : lv_has ls 7 [(0, .ref (B + a0)), (1, .int x1)]) : W p l e ({ frames := 3, cells := 0, slots := 0, locals := 83 } : Room) s m args below meth c H locs 0 0 (MQ below (zQi D (zOwn B K (B + n)) r B n K I' R) args s 0 0 (zOwn B K (B + n))) (F0 m 25 ls []) := by
  unfold f_X2_readHead_25 at hf
  refine lv_iconst (v := 0) X.1 X.2.1 dX2_readHead_25 (by decide) ?_
  exact w_X2_readHead_26 X hr hlk hK0 hf hW hl
set_option maxRecDepth 100000 in
set_option maxHeartbeats 4000000 in
theorem c_X2_readHead (l : Launch) (D : zD) (B n : Nat) {F : Nat} {K : zK} {I : zI} {R : zR} {a0 : Nat}  {r : Int32} {I' : zI} (hK0 : (K a0).1 = 12) (hf : f_X2_readHead F K I R a0  = some (r, I')) : zM l yX2_readHead cX2_readHead 7 (some .boolean) ({ frames := 3, cells := 0, slots := 0, locals := 83 } : Room) D B n K I R [.ref (B + a0)] (zQi D (zOwn B K (B + n)) r B n K I' R) := by
  refine ze_entry (lv0 := [(0, .ref (B + a0))]) (by decide) (by simp [lg_sl, zcat, zcat_i, zcat_r, zcat_l]) (by simp [lv_args, zcat, zcat_i, zcat_r, zcat_l]) (fun p e s m below meth c X hr hlk hin hW ls hl => ?_)
  unfold f_X2_readHead at hf
  refine lv_aload_n X.1 X.2.1 dX2_readHead_0 rfl (lv_at hl 0 rfl) ?_
  refine lv_aload_n X.1 X.2.1 dX2_readHead_1 rfl (lv_at hl 0 rfl) ?_
  refine ze_getI X 2 2 19 (RX2, TX2, 9) rfl hW hK0 rfl (by decide) kfl_X2_19 dX2_readHead_2 ?_
  obtain ⟨v73, h74, hg⟩ := zh_bd hf
  replace hf := hg
  refine ze_aftI0 (ze_runV (As := [.int (I a0 2)]) (rest := []) X 2 61 (c_X2_byteAt l D B n hK0 h74) vX2_byteAt kml_X2_61 hW hK0 rfl rfl ⟨by decide, by decide⟩ rfl hl.1 rfl (Nat.le_of_ble_eq_true rfl) ⟨Nat.le_refl _, Nat.le_refl _⟩ dX2_readHead_5) hW (fun H locs hV => ?_)
  replace hW := hV
  refine lv_istore_n (i := 1) (lv' := [(1, .int v73), (0, .ref (B + a0))]) X.1 X.2.1 dX2_readHead_8 rfl hl (by decide) rfl (fun ls hk => ?_)
  replace hl := hk
  refine lv_iload_n X.1 X.2.1 dX2_readHead_9 rfl (lv_at hl 0 rfl) ?_
  refine lv_bipush (v := 97) X.1 X.2.1 dX2_readHead_10 (by decide) ?_
  refine lv_icmp_lt (tgt := 25) X.1 X.2.1 dX2_readHead_12 (by decide) (fun c75 => ?_) (fun c75 => ?_)
  · replace hf := zif_pos c75 hf
    exact w_X2_readHead_25 X hr hlk hK0 hf hW (lv_sub hl [1, 0] rfl)
  · replace hf := zif_neg c75 hf
    refine lv_iload_n X.1 X.2.1 dX2_readHead_15 rfl (lv_at hl 0 rfl) ?_
    refine lv_bipush (v := 110) X.1 X.2.1 dX2_readHead_16 (by decide) ?_
    refine lv_icmp_ge (tgt := 25) X.1 X.2.1 dX2_readHead_18 (by decide) (fun c76 => ?_) (fun c76 => ?_)
    · replace hf := zif_pos c76 hf
      exact w_X2_readHead_25 X hr hlk hK0 hf hW (lv_sub hl [1, 0] rfl)
    · replace hf := zif_neg c76 hf
      refine lv_iconst (v := 1) X.1 X.2.1 dX2_readHead_21 (by decide) ?_
      refine lv_goto (tgt := 26) X.1 X.2.1 dX2_readHead_22 (by decide) ?_
      exact w_X2_readHead_26 X hr hlk hK0 hf hW (lv_sub hl [1, 0] rfl)
end

/-! LeastPatterns$Reader.read([II)LLeastPatterns$Term; -/
def f_X2_read_123 (F : Nat) (a0 : Nat) (k63 : Nat → zK → zI → zR → Int32 → Int32 → Option (Option Nat × Nat × zK × zI × zR)) (n : Nat) (K : zK) (I : zI) (R : zR) (x2 : Int32) (x3 : Int32) : Option (Option Nat × Nat × zK × zI × zR) :=
  k63 n K I R x2 (x3 + (1 : Int32))
def g_X2_read_63 (F : Nat) (a0 : Nat)  (kself : Nat → zK → zI → zR → Int32 → Int32 → Option (Option Nat × Nat × zK × zI × zR)) (n : Nat) (K : zK) (I : zI) (R : zR) (x2 : Int32) (x3 : Int32) : Option (Option Nat × Nat × zK × zI × zR) :=
  if x2 < x3 then
    some (none, n, K, I, R)
  else
    if (K a0).1 = 12 then
    zbd2 (f_X2_readHead F K I R a0) fun v3 I4 =>
    if v3 = (0 : Int32) then
      some (none, n, K, I4, R)
    else
      zbd2 (f_X2_opens F K I4 R a0) fun v7 I8 =>
      if v7 = (0 : Int32) then
        zbd (f_X2_closeNodes F K I8 R a0) fun I11 =>
        if (I11 a0 5) = (0 : Int32) then
          zbd2 (f_X2_ends F K I11 R a0) fun v18 I19 =>
          if v18 = (0 : Int32) then
            some (none, n, K, I19, R)
          else
            zbd (some (R a0 4)) fun o22 =>
            some (o22, n, K, I19, R)
        else
          zbd2 (f_X2_readComma F K I11 R a0) fun v14 I15 =>
          if v14 = (0 : Int32) then
            some (none, n, K, I15, R)
          else
            f_X2_read_123 F a0 kself n K I15 R x2 x3
      else
        f_X2_read_123 F a0 kself n K I8 R x2 x3
    else none
def f_X2_read_63 (F : Nat) (a0 : Nat)  : Nat → Nat → zK → zI → zR → Int32 → Int32 → Option (Option Nat × Nat × zK × zI × zR)
  | 0, _, _, _, _, _, _ => none
  | t + 1, n, K, I, R, x2, x3 => g_X2_read_63 F a0  (f_X2_read_63 F a0  t) n K I R x2 x3
def g_X2_read_39 (F : Nat) (a0 : Nat)  (kself : Nat → zK → zI → zR → Int32 → Int32 → Option (Option Nat × Nat × zK × zI × zR)) (n : Nat) (K : zK) (I : zI) (R : zR) (x2 : Int32) (x3 : Int32) : Option (Option Nat × Nat × zK × zI × zR) :=
  if (K a0).1 = 12 then
  zbd (some (R a0 8)) fun o24 =>
  zbd (zdr K o24 1) fun a25 =>
  if (zln K a25) ≤ x3 then
    f_X2_read_63 F a0 F n K I R x2 (0 : Int32)
  else
    zbd (some (R a0 8)) fun o29 =>
    zbd (zdr K o29 1) fun a30 =>
    zbd (zwr K I a30 x3 (-1 : Int32)) fun I33 =>
    kself n K I33 R x2 (x3 + (1 : Int32))
  else none
def f_X2_read_39 (F : Nat) (a0 : Nat)  : Nat → Nat → zK → zI → zR → Int32 → Int32 → Option (Option Nat × Nat × zK × zI × zR)
  | 0, _, _, _, _, _, _ => none
  | t + 1, n, K, I, R, x2, x3 => g_X2_read_39 F a0  (f_X2_read_39 F a0  t) n K I R x2 x3
def f_X2_read (F : Nat) (n : Nat) (K : zK) (I : zI) (R : zR) (a0 : Nat) (x1 : Option Nat) (x2 : Int32) : Option (Option Nat × Nat × zK × zI × zR) :=
  if (K a0).1 = 12 then
  zbd (some (zup R a0 0 x1)) fun R35 =>
  zbd (some (zup I a0 1 x2)) fun I36 =>
  zbd (some (zup I36 a0 2 (0 : Int32))) fun I37 =>
  zbd (some (zup I37 a0 3 (-9 : Int32))) fun I38 =>
  zbd (some (zup I38 a0 5 (0 : Int32))) fun I39 =>
  zbd4 (some (n + 1, zset K n (15, 0), zclr I39 n 0, zclr R35 n none)) fun n40 K41 I42 R43 =>
  zbd4 (f_X5_init F n40 K41 I42 R43 n) fun n44 K45 I46 R47 =>
  if (K45 a0).1 = 12 then
  zbd (some (zup R47 a0 4 (some n))) fun R50 =>
  f_X2_read_39 F a0 F n44 K45 I46 R50 x2 (0 : Int32)
  else none
  else none
section
variable {p : Program} {l : Launch} {e : Env} {s : State} {m : MethodId} {args : Array Value} {below : List Frame} {meth : Method} {c : Code} {D : zD} {B n n0 n' fd ld : Nat} {K K0 K' : zK} {I I' : zI} {R R' : zR} {H : Heap} {locs : List Loc} {ls : Array Slot} {r : Option Nat}
set_option maxRecDepth 100000 in
set_option maxHeartbeats 4000000 in
theorem w_X2_read_123 {F : Nat} {a0 : Nat} {k63 : Nat → zK → zI → zR → Int32 → Int32 → Option (Option Nat × Nat × zK × zI × zR)} (X : zX p s m c cX2_read 4 RX2 D) (hr : meth.sig.returnType = some (.object "LeastPatterns$Term")) (hlk : meth.locks = false) (hk63 : ∀ (n : Nat) (K : zK) (I : zI) (R : zR) (x2 : Int32) (x3 : Int32) (cells slots : Nat) (H : Heap) (locs : List Loc) (ls : Array Slot), k63 n K I R x2 x3 = some (r, n', K', I', R') → cells + 0 ≤ 4 → slots + 0 ≤ 100 → zS (zOwn B K0 (B + n0)) D B n K I R s.heap H locs → lv_has ls 4 [(0, .ref (B + a0)), (2, .int x2), (3, .int x3)] → W p l e ({ frames := 4, cells := 4, slots := 100, locals := 109 } : Room) s m args below meth c H locs cells slots (MQ below (zQq D (zOwn B K0 (B + n0)) r B n' K' I' R') args s 4 100 (zOwn B K0 (B + n0))) (F0 m 63 ls [])) {x2 : Int32} {x3 : Int32} {cells slots : Nat} (hf : f_X2_read_123 F a0 k63 n K I R x2 x3 = some (r, n', K', I', R')) (b1 : cells + 0 ≤ 4) (b2 : slots + 0 ≤ 100) (hW : zS (zOwn B K0 (B + n0)) D B n K I R s.heap H locs) (hl : lv_has ls 4 [(0, .ref (B + a0)), (2, .int x2), (3, .int x3)]) : W p l e ({ frames := 4, cells := 4, slots := 100, locals := 109 } : Room) s m args below meth c H locs cells slots (MQ below (zQq D (zOwn B K0 (B + n0)) r B n' K' I' R') args s 4 100 (zOwn B K0 (B + n0))) (F0 m 123 ls []) := by
  unfold f_X2_read_123 at hf
  refine ze_iinc (lv' := [(3, .int (x3 + (1 : Int32))), (0, .ref (B + a0)), (2, .int x2)]) (d := 1) X.1 X.2.1 dX2_read_123 hl (k := 2) rfl (by decide) (by decide) rfl (fun ls hk => ?_)
  replace hl := hk
  refine lv_goto (tgt := 63) X.1 X.2.1 dX2_read_126 (by decide) ?_
  exact hk63 _ _ _ _ _ _ _ _ _ _ _ hf (by (try dsimp only); omega) (by (try dsimp only); omega) hW (lv_sub hl [1, 2, 0] rfl)
set_option maxRecDepth 100000 in
set_option maxHeartbeats 4000000 in
theorem wg_X2_read_63 {F : Nat} {a0 : Nat}  (X : zX p s m c cX2_read 4 RX2 D) (hr : meth.sig.returnType = some (.object "LeastPatterns$Term")) (hlk : meth.locks = false)  {kself : Nat → zK → zI → zR → Int32 → Int32 → Option (Option Nat × Nat × zK × zI × zR)} (hkself : ∀ (n : Nat) (K : zK) (I : zI) (R : zR) (x2 : Int32) (x3 : Int32) (cells slots : Nat) (H : Heap) (locs : List Loc) (ls : Array Slot), kself n K I R x2 x3 = some (r, n', K', I', R') → cells + 0 ≤ 4 → slots + 0 ≤ 100 → zS (zOwn B K0 (B + n0)) D B n K I R s.heap H locs → lv_has ls 4 [(0, .ref (B + a0)), (2, .int x2), (3, .int x3)] → W p l e ({ frames := 4, cells := 4, slots := 100, locals := 109 } : Room) s m args below meth c H locs cells slots (MQ below (zQq D (zOwn B K0 (B + n0)) r B n' K' I' R') args s 4 100 (zOwn B K0 (B + n0))) (F0 m 63 ls [])) {x2 : Int32} {x3 : Int32} {cells slots : Nat} (hf : g_X2_read_63 F a0  kself n K I R x2 x3 = some (r, n', K', I', R')) (b1 : cells + 0 ≤ 4) (b2 : slots + 0 ≤ 100) (hW : zS (zOwn B K0 (B + n0)) D B n K I R s.heap H locs) (hl : lv_has ls 4 [(0, .ref (B + a0)), (2, .int x2), (3, .int x3)]) : W p l e ({ frames := 4, cells := 4, slots := 100, locals := 109 } : Room) s m args below meth c H locs cells slots (MQ below (zQq D (zOwn B K0 (B + n0)) r B n' K' I' R') args s 4 100 (zOwn B K0 (B + n0))) (F0 m 63 ls []) := by
  unfold g_X2_read_63 at hf
  refine lv_iload_n X.1 X.2.1 dX2_read_63 rfl (lv_at hl 2 rfl) ?_
  refine lv_iload_n X.1 X.2.1 dX2_read_64 rfl (lv_at hl 1 rfl) ?_
  refine lv_icmp_gt (tgt := 129) X.1 X.2.1 dX2_read_65 (by decide) (fun c1 => ?_) (fun c1 => ?_)
  · replace hf := zif_pos c1 hf
    refine lv_null X.1 X.2.1 dX2_read_129 ?_
    obtain ⟨rfl, rfl, rfl, rfl, rfl⟩ := zi5 hf
    exact ze_retQ X hr hlk hW (by (try dsimp only); omega) (by (try dsimp only); omega) dX2_read_130
  · replace hf := zif_neg c1 hf
    refine lv_aload_n X.1 X.2.1 dX2_read_68 rfl (lv_at hl 0 rfl) ?_
    obtain ⟨k2, hg⟩ := zh_if hf
    replace hf := hg
    obtain ⟨v3, I4, h5, hg⟩ := zh_bd2 hf
    replace hf := hg
    refine ze_aftI0 (ze_runV (As := []) (rest := []) X 2 45 (c_X2_readHead l D B n k2 h5) vX2_readHead kml_X2_45 hW k2 rfl rfl ⟨by decide, by decide⟩ rfl hl.1 rfl (Nat.le_of_ble_eq_true rfl) ⟨by show _ + 0 ≤ (4 : Nat); (try dsimp only); omega, by show _ + 0 ≤ (100 : Nat); (try dsimp only); omega⟩ dX2_read_69) hW (fun H locs hV => ?_)
    replace hW := hV
    refine lv_if_ne (tgt := 77) X.1 X.2.1 dX2_read_72 (by decide) (fun c6 => ?_) (fun c6 => ?_)
    · replace hf := zif_neg c6 hf
      refine lv_aload_n X.1 X.2.1 dX2_read_77 rfl (lv_at hl 0 rfl) ?_
      obtain ⟨v7, I8, h9, hg⟩ := zh_bd2 hf
      replace hf := hg
      refine ze_aftI0 (ze_runV (As := []) (rest := []) X 2 49 (c_X2_opens l D B n k2 h9) vX2_opens kml_X2_49 hW k2 rfl rfl ⟨by decide, by decide⟩ rfl hl.1 rfl (Nat.le_of_ble_eq_true rfl) ⟨by show _ + 0 ≤ (4 : Nat); (try dsimp only); omega, by show _ + 0 ≤ (100 : Nat); (try dsimp only); omega⟩ dX2_read_78) hW (fun H locs hV => ?_)
      replace hW := hV
      refine lv_if_eq (tgt := 87) X.1 X.2.1 dX2_read_81 (by decide) (fun c10 => ?_) (fun c10 => ?_)
      · replace hf := zif_pos c10 hf
        refine lv_aload_n X.1 X.2.1 dX2_read_87 rfl (lv_at hl 0 rfl) ?_
        obtain ⟨I11, h12, hg⟩ := zh_bd hf
        replace hf := hg
        refine ze_aftV0 (ze_runV (As := []) (rest := []) X 2 52 (c_X2_closeNodes l D B n k2 h12) vX2_closeNodes kml_X2_52 hW k2 rfl rfl ⟨by decide, by decide⟩ rfl hl.1 rfl (Nat.le_of_ble_eq_true rfl) ⟨by show _ + 0 ≤ (4 : Nat); (try dsimp only); omega, by show _ + 0 ≤ (100 : Nat); (try dsimp only); omega⟩ dX2_read_88) hW (fun H locs hV => ?_)
        replace hW := hV
        refine lv_aload_n X.1 X.2.1 dX2_read_91 rfl (lv_at hl 0 rfl) ?_
        refine ze_getI X 2 5 32 (RX2, TX2, 9) rfl hW k2 rfl (by decide) kfl_X2_32 dX2_read_92 ?_
        refine lv_if_ne (tgt := 114) X.1 X.2.1 dX2_read_95 (by decide) (fun c13 => ?_) (fun c13 => ?_)
        · replace hf := zif_neg c13 hf
          refine lv_aload_n X.1 X.2.1 dX2_read_114 rfl (lv_at hl 0 rfl) ?_
          obtain ⟨v14, I15, h16, hg⟩ := zh_bd2 hf
          replace hf := hg
          refine ze_aftI0 (ze_runV (As := []) (rest := []) X 2 58 (c_X2_readComma l D B n k2 h16) vX2_readComma kml_X2_58 hW k2 rfl rfl ⟨by decide, by decide⟩ rfl hl.1 rfl (Nat.le_of_ble_eq_true rfl) ⟨by show _ + 0 ≤ (4 : Nat); (try dsimp only); omega, by show _ + 0 ≤ (100 : Nat); (try dsimp only); omega⟩ dX2_read_115) hW (fun H locs hV => ?_)
          replace hW := hV
          refine lv_if_ne (tgt := 123) X.1 X.2.1 dX2_read_118 (by decide) (fun c17 => ?_) (fun c17 => ?_)
          · replace hf := zif_neg c17 hf
            exact w_X2_read_123 X hr hlk hkself hf (by (try dsimp only); omega) (by (try dsimp only); omega) hW hl
          · replace hf := zif_pos c17 hf
            refine lv_null X.1 X.2.1 dX2_read_121 ?_
            obtain ⟨rfl, rfl, rfl, rfl, rfl⟩ := zi5 hf
            exact ze_retQ X hr hlk hW (by (try dsimp only); omega) (by (try dsimp only); omega) dX2_read_122
        · replace hf := zif_pos c13 hf
          refine lv_aload_n X.1 X.2.1 dX2_read_98 rfl (lv_at hl 0 rfl) ?_
          obtain ⟨v18, I19, h20, hg⟩ := zh_bd2 hf
          replace hf := hg
          refine ze_aftI0 (ze_runV (As := []) (rest := []) X 2 55 (c_X2_ends l D B n k2 h20) vX2_ends kml_X2_55 hW k2 rfl rfl ⟨by decide, by decide⟩ rfl hl.1 rfl (Nat.le_of_ble_eq_true rfl) ⟨by show _ + 0 ≤ (4 : Nat); (try dsimp only); omega, by show _ + 0 ≤ (100 : Nat); (try dsimp only); omega⟩ dX2_read_99) hW (fun H locs hV => ?_)
          replace hW := hV
          refine lv_if_eq (tgt := 112) X.1 X.2.1 dX2_read_102 (by decide) (fun c21 => ?_) (fun c21 => ?_)
          · replace hf := zif_pos c21 hf
            refine lv_null X.1 X.2.1 dX2_read_112 ?_
            obtain ⟨rfl, rfl, rfl, rfl, rfl⟩ := zi5 hf
            exact ze_retQ X hr hlk hW (by (try dsimp only); omega) (by (try dsimp only); omega) dX2_read_113
          · replace hf := zif_neg c21 hf
            refine lv_aload_n X.1 X.2.1 dX2_read_105 rfl (lv_at hl 0 rfl) ?_
            refine ze_gtR X 2 4 28 (RX2, TX2, 9) rfl hf hW k2 rfl (by decide) kfl_X2_28 dX2_read_106 (fun o22 hg => ?_)
            replace hf := hg
            refine lv_goto (tgt := 113) X.1 X.2.1 dX2_read_109 (by decide) ?_
            obtain ⟨rfl, rfl, rfl, rfl, rfl⟩ := zi5 hf
            exact ze_retQ X hr hlk hW (by (try dsimp only); omega) (by (try dsimp only); omega) dX2_read_113
      · replace hf := zif_neg c10 hf
        refine lv_goto (tgt := 123) X.1 X.2.1 dX2_read_84 (by decide) ?_
        exact w_X2_read_123 X hr hlk hkself hf (by (try dsimp only); omega) (by (try dsimp only); omega) hW hl
    · replace hf := zif_pos c6 hf
      refine lv_null X.1 X.2.1 dX2_read_75 ?_
      obtain ⟨rfl, rfl, rfl, rfl, rfl⟩ := zi5 hf
      exact ze_retQ X hr hlk hW (by (try dsimp only); omega) (by (try dsimp only); omega) dX2_read_76
set_option maxRecDepth 100000 in
set_option maxHeartbeats 4000000 in
theorem w_X2_read_63 {F : Nat} {a0 : Nat}  (X : zX p s m c cX2_read 4 RX2 D) (hr : meth.sig.returnType = some (.object "LeastPatterns$Term")) (hlk : meth.locks = false)  {t : Nat} {x2 : Int32} {x3 : Int32} {cells slots : Nat} (hf : f_X2_read_63 F a0  t n K I R x2 x3 = some (r, n', K', I', R')) (b1 : cells + 0 ≤ 4) (b2 : slots + 0 ≤ 100) (hW : zS (zOwn B K0 (B + n0)) D B n K I R s.heap H locs) (hl : lv_has ls 4 [(0, .ref (B + a0)), (2, .int x2), (3, .int x3)]) : W p l e ({ frames := 4, cells := 4, slots := 100, locals := 109 } : Room) s m args below meth c H locs cells slots (MQ below (zQq D (zOwn B K0 (B + n0)) r B n' K' I' R') args s 4 100 (zOwn B K0 (B + n0))) (F0 m 63 ls []) := by
  have key : ∀ t : Nat, ∀ (n : Nat) (K : zK) (I : zI) (R : zR) (x2 : Int32) (x3 : Int32) (cells slots : Nat) (H : Heap) (locs : List Loc) (ls : Array Slot), f_X2_read_63 F a0  t n K I R x2 x3 = some (r, n', K', I', R') → cells + 0 ≤ 4 → slots + 0 ≤ 100 → zS (zOwn B K0 (B + n0)) D B n K I R s.heap H locs → lv_has ls 4 [(0, .ref (B + a0)), (2, .int x2), (3, .int x3)] → W p l e ({ frames := 4, cells := 4, slots := 100, locals := 109 } : Room) s m args below meth c H locs cells slots (MQ below (zQq D (zOwn B K0 (B + n0)) r B n' K' I' R') args s 4 100 (zOwn B K0 (B + n0))) (F0 m 63 ls []) := by
    intro t
    induction t with
    | zero =>
      intro n K I R x2 x3 cells slots H locs ls hf b1 b2 hW hl
      cases hf
    | succ t ih =>
      intro n K I R x2 x3 cells slots H locs ls hf b1 b2 hW hl
      exact wg_X2_read_63 X hr hlk  ih hf b1 b2 hW hl
  exact key t _ _ _ _ _ _ _ _ _ _ _ hf b1 b2 hW hl
set_option maxRecDepth 100000 in
set_option maxHeartbeats 4000000 in
theorem wg_X2_read_39 {F : Nat} {a0 : Nat}  (X : zX p s m c cX2_read 4 RX2 D) (hr : meth.sig.returnType = some (.object "LeastPatterns$Term")) (hlk : meth.locks = false)  {kself : Nat → zK → zI → zR → Int32 → Int32 → Option (Option Nat × Nat × zK × zI × zR)} (hkself : ∀ (n : Nat) (K : zK) (I : zI) (R : zR) (x2 : Int32) (x3 : Int32) (cells slots : Nat) (H : Heap) (locs : List Loc) (ls : Array Slot), kself n K I R x2 x3 = some (r, n', K', I', R') → cells + 0 ≤ 4 → slots + 0 ≤ 100 → zS (zOwn B K0 (B + n0)) D B n K I R s.heap H locs → lv_has ls 4 [(0, .ref (B + a0)), (2, .int x2), (3, .int x3)] → W p l e ({ frames := 4, cells := 4, slots := 100, locals := 109 } : Room) s m args below meth c H locs cells slots (MQ below (zQq D (zOwn B K0 (B + n0)) r B n' K' I' R') args s 4 100 (zOwn B K0 (B + n0))) (F0 m 39 ls [])) {x2 : Int32} {x3 : Int32} {cells slots : Nat} (hf : g_X2_read_39 F a0  kself n K I R x2 x3 = some (r, n', K', I', R')) (b1 : cells + 0 ≤ 4) (b2 : slots + 0 ≤ 100) (hW : zS (zOwn B K0 (B + n0)) D B n K I R s.heap H locs) (hl : lv_has ls 4 [(0, .ref (B + a0)), (2, .int x2), (3, .int x3)]) : W p l e ({ frames := 4, cells := 4, slots := 100, locals := 109 } : Room) s m args below meth c H locs cells slots (MQ below (zQq D (zOwn B K0 (B + n0)) r B n' K' I' R') args s 4 100 (zOwn B K0 (B + n0))) (F0 m 39 ls []) := by
  unfold g_X2_read_39 at hf
  refine lv_iload_n X.1 X.2.1 dX2_read_39 rfl (lv_at hl 2 rfl) ?_
  refine lv_aload_n X.1 X.2.1 dX2_read_40 rfl (lv_at hl 0 rfl) ?_
  obtain ⟨k23, hg⟩ := zh_if hf
  replace hf := hg
  refine ze_gtR X 2 8 42 (RX2, TX2, 9) rfl hf hW k23 rfl (by decide) kfl_X2_42 dX2_read_41 (fun o24 hg => ?_)
  replace hf := hg
  obtain ⟨a25, rfl, k27, hg⟩ := zh_dr hf
  replace hf := hg
  refine ze_alen X 1 (by decide) hW k27 dX2_read_44 ?_
  refine lv_icmp_ge (tgt := 61) X.1 X.2.1 dX2_read_45 (by decide) (fun c28 => ?_) (fun c28 => ?_)
  · replace hf := zif_pos c28 hf
    refine lv_iconst (v := 0) X.1 X.2.1 dX2_read_61 (by decide) ?_
    refine lv_istore_n (i := 3) (lv' := [(3, .int (0 : Int32)), (0, .ref (B + a0)), (2, .int x2)]) X.1 X.2.1 dX2_read_62 rfl hl (by decide) rfl (fun ls hk => ?_)
    replace hl := hk
    exact w_X2_read_63 X hr hlk hf (by (try dsimp only); omega) (by (try dsimp only); omega) hW (lv_sub hl [1, 2, 0] rfl)
  · replace hf := zif_neg c28 hf
    refine lv_aload_n X.1 X.2.1 dX2_read_48 rfl (lv_at hl 0 rfl) ?_
    refine ze_gtR X 2 8 42 (RX2, TX2, 9) rfl hf hW k23 rfl (by decide) kfl_X2_42 dX2_read_49 (fun o29 hg => ?_)
    replace hf := hg
    refine lv_iload_n X.1 X.2.1 dX2_read_52 rfl (lv_at hl 2 rfl) ?_
    refine lv_iconst (v := -1) X.1 X.2.1 dX2_read_53 (by decide) ?_
    obtain ⟨a30, rfl, k32, hg⟩ := zh_dr hf
    replace hf := hg
    refine ze_iast X hf hW k32 dX2_read_54 (fun I33 H locs hg hV => ?_)
    replace hf := hg
    replace hW := hV
    refine ze_iinc (lv' := [(3, .int (x3 + (1 : Int32))), (0, .ref (B + a0)), (2, .int x2)]) (d := 1) X.1 X.2.1 dX2_read_55 hl (k := 2) rfl (by decide) (by decide) rfl (fun ls hk => ?_)
    replace hl := hk
    refine lv_goto (tgt := 39) X.1 X.2.1 dX2_read_58 (by decide) ?_
    exact hkself _ _ _ _ _ _ _ _ _ _ _ hf (by (try dsimp only); omega) (by (try dsimp only); omega) hW (lv_sub hl [1, 2, 0] rfl)
set_option maxRecDepth 100000 in
set_option maxHeartbeats 4000000 in
theorem w_X2_read_39 {F : Nat} {a0 : Nat}  (X : zX p s m c cX2_read 4 RX2 D) (hr : meth.sig.returnType = some (.object "LeastPatterns$Term")) (hlk : meth.locks = false)  {t : Nat} {x2 : Int32} {x3 : Int32} {cells slots : Nat} (hf : f_X2_read_39 F a0  t n K I R x2 x3 = some (r, n', K', I', R')) (b1 : cells + 0 ≤ 4) (b2 : slots + 0 ≤ 100) (hW : zS (zOwn B K0 (B + n0)) D B n K I R s.heap H locs) (hl : lv_has ls 4 [(0, .ref (B + a0)), (2, .int x2), (3, .int x3)]) : W p l e ({ frames := 4, cells := 4, slots := 100, locals := 109 } : Room) s m args below meth c H locs cells slots (MQ below (zQq D (zOwn B K0 (B + n0)) r B n' K' I' R') args s 4 100 (zOwn B K0 (B + n0))) (F0 m 39 ls []) := by
  have key : ∀ t : Nat, ∀ (n : Nat) (K : zK) (I : zI) (R : zR) (x2 : Int32) (x3 : Int32) (cells slots : Nat) (H : Heap) (locs : List Loc) (ls : Array Slot), f_X2_read_39 F a0  t n K I R x2 x3 = some (r, n', K', I', R') → cells + 0 ≤ 4 → slots + 0 ≤ 100 → zS (zOwn B K0 (B + n0)) D B n K I R s.heap H locs → lv_has ls 4 [(0, .ref (B + a0)), (2, .int x2), (3, .int x3)] → W p l e ({ frames := 4, cells := 4, slots := 100, locals := 109 } : Room) s m args below meth c H locs cells slots (MQ below (zQq D (zOwn B K0 (B + n0)) r B n' K' I' R') args s 4 100 (zOwn B K0 (B + n0))) (F0 m 39 ls []) := by
    intro t
    induction t with
    | zero =>
      intro n K I R x2 x3 cells slots H locs ls hf b1 b2 hW hl
      cases hf
    | succ t ih =>
      intro n K I R x2 x3 cells slots H locs ls hf b1 b2 hW hl
      exact wg_X2_read_39 X hr hlk  ih hf b1 b2 hW hl
  exact key t _ _ _ _ _ _ _ _ _ _ _ hf b1 b2 hW hl
set_option maxRecDepth 100000 in
set_option maxHeartbeats 4000000 in
theorem c_X2_read (l : Launch) (D : zD) (B n : Nat) {F : Nat} {K : zK} {I : zI} {R : zR} {a0 : Nat} {x1 : Option Nat} {x2 : Int32} {r : Option Nat} {n' : Nat} {K' : zK} {I' : zI} {R' : zR} (hf : f_X2_read F n K I R a0 x1 x2 = some (r, n', K', I', R')) : zM l yX2_read cX2_read 4 (some (.object "LeastPatterns$Term")) ({ frames := 4, cells := 4, slots := 100, locals := 109 } : Room) D B n K I R [.ref (B + a0), zrf B x1, .int x2] (zQq D (zOwn B K (B + n)) r B n' K' I' R') := by
  refine ze_entry (lv0 := [(0, .ref (B + a0)), (1, zrf B x1), (2, .int x2)]) (by decide) (by simp [lg_sl, zcat, zcat_i, zcat_r, zcat_l]) (by simp [lv_args, zcat, zcat_i, zcat_r, zcat_l]) (fun p e s m below meth c X hr hlk hin hW ls hl => ?_)
  unfold f_X2_read at hf
  have b1 : (0 : Nat) ≤ 0 := Nat.le_refl _
  refine lv_aload_n X.1 X.2.1 dX2_read_0 rfl (lv_at hl 0 rfl) ?_
  refine ze_aload_n X.1 X.2.1 dX2_read_1 rfl (lv_at hl 1 rfl) ?_
  obtain ⟨k34, hg⟩ := zh_if hf
  replace hf := hg
  refine ze_putR (ty := .array .int) (x := x1) X 2 0 9 (RX2, TX2, 9) rfl (Or.inr ⟨_, rfl⟩) hf hW k34 rfl (by decide) kfl_X2_9 rfl (by decide +kernel) dX2_read_2 (fun R35 H locs hg hV => ?_)
  replace hf := hg
  replace hW := hV
  refine lv_aload_n X.1 X.2.1 dX2_read_5 rfl (lv_at hl 0 rfl) ?_
  refine lv_iload_n X.1 X.2.1 dX2_read_6 rfl (lv_at hl 2 rfl) ?_
  refine ze_putI X 2 1 15 (RX2, TX2, 9) rfl hf hW k34 rfl (by decide) kfl_X2_15 rfl (by decide +kernel) dX2_read_7 (fun I36 H locs hg hV => ?_)
  replace hf := hg
  replace hW := hV
  refine lv_aload_n X.1 X.2.1 dX2_read_10 rfl (lv_at hl 0 rfl) ?_
  refine lv_iconst (v := 0) X.1 X.2.1 dX2_read_11 (by decide) ?_
  refine ze_putI X 2 2 19 (RX2, TX2, 9) rfl hf hW k34 rfl (by decide) kfl_X2_19 rfl (by decide +kernel) dX2_read_12 (fun I37 H locs hg hV => ?_)
  replace hf := hg
  replace hW := hV
  refine lv_aload_n X.1 X.2.1 dX2_read_15 rfl (lv_at hl 0 rfl) ?_
  refine lv_bipush (v := -9) X.1 X.2.1 dX2_read_16 (by decide) ?_
  refine ze_putI X 2 3 22 (RX2, TX2, 9) rfl hf hW k34 rfl (by decide) kfl_X2_22 rfl (by decide +kernel) dX2_read_18 (fun I38 H locs hg hV => ?_)
  replace hf := hg
  replace hW := hV
  refine lv_aload_n X.1 X.2.1 dX2_read_21 rfl (lv_at hl 0 rfl) ?_
  refine lv_iconst (v := 0) X.1 X.2.1 dX2_read_22 (by decide) ?_
  refine ze_putI X 2 5 32 (RX2, TX2, 9) rfl hf hW k34 rfl (by decide) kfl_X2_32 rfl (by decide +kernel) dX2_read_23 (fun I39 H locs hg hV => ?_)
  replace hf := hg
  replace hW := hV
  refine lv_aload_n X.1 X.2.1 dX2_read_26 rfl (lv_at hl 0 rfl) ?_
  refine ze_nw X 5 25 (RX5, TX5, 4) hf rfl kcx_X2_25 kci_X5 kit_X5 hW (by show _ ≤ (4 : Nat); (try dsimp only); omega) (by show _ ≤ (100 : Nat); (try dsimp only); omega) dX2_read_27 (fun n40 K41 I42 R43 H hg hV => ?_)
  replace hf := hg
  replace hW := hV
  refine lv_dup X.1 X.2.1 dX2_read_30 rfl ?_
  obtain ⟨n44, K45, I46, R47, h48, hg⟩ := zh_bd4 hf
  replace hf := hg
  refine ze_aftV (ze_runIN (b := n) (As := []) (rest := [.ref (B + n), .ref (B + a0)]) X 27 (c_X5_init l D B n40 h48) vX5_init kml_X2_27 hW ⟨by decide, by decide⟩ rfl hl.1 rfl (Nat.le_of_ble_eq_true rfl) ⟨by show _ + 3 ≤ (4 : Nat); (try dsimp only); omega, by show _ + 96 ≤ (100 : Nat); (try dsimp only); omega⟩ dX2_read_31) hW (fun H locs hV => ?_)
  replace hW := hV
  obtain ⟨k49, hg⟩ := zh_if hf
  replace hf := hg
  refine ze_putR (ty := .object "LeastPatterns$Term") (x := (some n)) X 2 4 28 (RX2, TX2, 9) rfl (Or.inl ⟨_, rfl⟩) hf hW k49 rfl (by decide) kfl_X2_28 rfl (by decide +kernel) dX2_read_34 (fun R50 H locs hg hV => ?_)
  replace hf := hg
  replace hW := hV
  refine lv_iconst (v := 0) X.1 X.2.1 dX2_read_37 (by decide) ?_
  refine lv_istore_n (i := 3) (lv' := [(3, .int (0 : Int32)), (0, .ref (B + a0)), (1, zrf B x1), (2, .int x2)]) X.1 X.2.1 dX2_read_38 rfl hl (by decide) rfl (fun ls hk => ?_)
  replace hl := hk
  exact w_X2_read_39 X hr hlk hf (by (try dsimp only); omega) (by (try dsimp only); omega) hW (lv_sub hl [1, 3, 0] rfl)
end

/-! LeastPatterns$Shaper.moveArguments(LLeastPatterns$Term;I)V -/
def g_X3_moveArguments_105 (F : Nat) (K : zK) (R : zR) (a0 : Nat)  (kself : zI → Option Nat → Int32 → Int32 → Int32 → Option (zI)) (I : zI) (x1 : Option Nat) (x2 : Int32) (x4 : Int32) (x5 : Int32) : Option (zI) :=
  if x4 ≤ x5 then
    some I
  else
    zbd (zdr K x1 15) fun a2 =>
    if (I a2 3) ≤ ((x2 + (1 : Int32)) + x5) then
      some I
    else
      zbd (some (R a2 0)) fun o6 =>
      zbd (some (R a0 4)) fun o7 =>
      zbd (zdr K o7 1) fun a8 =>
      zbd (zrd K I a8 x5) fun v11 =>
      zbd (zdr K o6 1) fun a12 =>
      zbd (zwr K I a12 ((x2 + (1 : Int32)) + x5) v11) fun I15 =>
      kself I15 (some a2) x2 x4 (x5 + (1 : Int32))
def f_X3_moveArguments_105 (F : Nat) (K : zK) (R : zR) (a0 : Nat)  : Nat → zI → Option Nat → Int32 → Int32 → Int32 → Option (zI)
  | 0, _, _, _, _, _ => none
  | t + 1, I, x1, x2, x4, x5 => g_X3_moveArguments_105 F K R a0  (f_X3_moveArguments_105 F K R a0  t) I x1 x2 x4 x5
def f_X3_moveArguments_96 (F : Nat) (K : zK) (R : zR) (a0 : Nat) (k20 : zI → Option Nat → Int32 → Int32 → Int32 → Int32 → Option (zI)) (I : zI) (x1 : Option Nat) (x2 : Int32) (x3 : Int32) (x4 : Int32) (x5 : Int32) : Option (zI) :=
  k20 I x1 x2 x3 x4 (x5 + (1 : Int32))
def g_X3_moveArguments_50 (F : Nat) (K : zK) (R : zR) (a0 : Nat) (k20 : zI → Option Nat → Int32 → Int32 → Int32 → Int32 → Option (zI)) (kself : zI → Option Nat → Int32 → Int32 → Int32 → Int32 → Int32 → Int32 → Option (zI)) (I : zI) (x1 : Option Nat) (x2 : Int32) (x3 : Int32) (x4 : Int32) (x5 : Int32) (x7 : Int32) (x8 : Int32) : Option (zI) :=
  if x7 ≤ x8 then
    f_X3_moveArguments_96 F K R a0 k20 I x1 x2 x3 x4 x5
  else
    zbd (zdr K x1 15) fun a17 =>
    if (I a17 3) ≤ x8 then
      f_X3_moveArguments_96 F K R a0 k20 I (some a17) x2 x3 x4 x5
    else
      if (32 : Int32) ≤ x4 then
        f_X3_moveArguments_96 F K R a0 k20 I (some a17) x2 x3 x4 x5
      else
        zbd (some (R a0 4)) fun o22 =>
        zbd (some (R a17 0)) fun o23 =>
        zbd (zdr K o23 1) fun a24 =>
        zbd (zrd K I a24 x8) fun v27 =>
        zbd (zdr K o22 1) fun a28 =>
        zbd (zwr K I a28 x4 v27) fun I31 =>
        kself I31 (some a17) x2 x3 (x4 + (1 : Int32)) x5 x7 (x8 + (1 : Int32))
def f_X3_moveArguments_50 (F : Nat) (K : zK) (R : zR) (a0 : Nat) (k20 : zI → Option Nat → Int32 → Int32 → Int32 → Int32 → Option (zI)) : Nat → zI → Option Nat → Int32 → Int32 → Int32 → Int32 → Int32 → Int32 → Option (zI)
  | 0, _, _, _, _, _, _, _, _ => none
  | t + 1, I, x1, x2, x3, x4, x5, x7, x8 => g_X3_moveArguments_50 F K R a0 k20 (f_X3_moveArguments_50 F K R a0 k20 t) I x1 x2 x3 x4 x5 x7 x8
def g_X3_moveArguments_20 (F : Nat) (K : zK) (R : zR) (a0 : Nat)  (kself : zI → Option Nat → Int32 → Int32 → Int32 → Int32 → Option (zI)) (I : zI) (x1 : Option Nat) (x2 : Int32) (x3 : Int32) (x4 : Int32) (x5 : Int32) : Option (zI) :=
  if x3 ≤ x5 then
    f_X3_moveArguments_105 F K R a0 F I x1 x2 x4 (0 : Int32)
  else
    zbd (some (R a0 3)) fun o33 =>
    zbd (zdr K o33 1) fun a34 =>
    zbd (zrd K I a34 x5) fun v37 =>
    zbd (zdr K x1 15) fun a38 =>
    zbd (f_X5_spanOf F K I R a38 v37) fun v41 =>
    zbd (some (v37 + v41)) fun v43 =>
    f_X3_moveArguments_50 F K R a0 kself F I (some a38) x2 x3 x4 x5 v43 v37
def f_X3_moveArguments_20 (F : Nat) (K : zK) (R : zR) (a0 : Nat)  : Nat → zI → Option Nat → Int32 → Int32 → Int32 → Int32 → Option (zI)
  | 0, _, _, _, _, _, _ => none
  | t + 1, I, x1, x2, x3, x4, x5 => g_X3_moveArguments_20 F K R a0  (f_X3_moveArguments_20 F K R a0  t) I x1 x2 x3 x4 x5
def f_X3_moveArguments (F : Nat) (K : zK) (I : zI) (R : zR) (a0 : Nat) (x1 : Option Nat) (x2 : Int32) : Option (zI) :=
  zbd (zdr K x1 15) fun a44 =>
  zbd (f_X5_argumentsOf F K I R a44 x2) fun v47 =>
  zbd (some (R a0 3)) fun o49 =>
  zbd (zdr K o49 1) fun a50 =>
  zbd (some (if (zln K a50) < v47 then (zln K a50) else v47)) fun v53 =>
  f_X3_moveArguments_20 F K R a0 F I (some a44) x2 v53 (0 : Int32) (0 : Int32)
section
variable {p : Program} {l : Launch} {e : Env} {s : State} {m : MethodId} {args : Array Value} {below : List Frame} {meth : Method} {c : Code} {D : zD} {B n n0 n' fd ld : Nat} {K K0 K' : zK} {I I' : zI} {R R' : zR} {H : Heap} {locs : List Loc} {ls : Array Slot} {r : Int32}
set_option maxRecDepth 100000 in
set_option maxHeartbeats 4000000 in
theorem wg_X3_moveArguments_105 {F : Nat} {a0 : Nat}  (X : zX p s m c cX3_moveArguments 9 RX3 D) (hr : meth.sig.returnType = none) (hlk : meth.locks = false) (hK0 : (K a0).1 = 13)  {kself : zI → Option Nat → Int32 → Int32 → Int32 → Option (zI)} (hkself : ∀ (I : zI) (x1 : Option Nat) (x2 : Int32) (x4 : Int32) (x5 : Int32) (H : Heap) (locs : List Loc) (ls : Array Slot), kself I x1 x2 x4 x5 = some I' → zS (zOwn B K (B + n)) D B n K I R s.heap H locs → lv_has ls 9 [(0, .ref (B + a0)), (1, zrf B x1), (2, .int x2), (4, .int x4), (5, .int x5)] → W p l e ({ frames := 2, cells := 0, slots := 0, locals := 61 } : Room) s m args below meth c H locs 0 0 (MQ below (zQv D (zOwn B K (B + n)) B n K I' R) args s 0 0 (zOwn B K (B + n))) (F0 m 105 ls [])) {x1 : Option Nat} {x2 : Int32} {x4 : Int32} {x5 : Int32} (hf : g_X3_moveArguments_105 F K R a0  kself I x1 x2 x4 x5 = some I') (hW : zS (zOwn B K (B + n)) D B n K I R s.heap H locs) (hl : lv_has ls 9 [(0, .ref (B + a0)), (1, zrf B x1), (2, .int x2), (4, .int x4), (5, .int x5)]) : W p l e ({ frames := 2, cells := 0, slots := 0, locals := 61 } : Room) s m args below meth c H locs 0 0 (MQ below (zQv D (zOwn B K (B + n)) B n K I' R) args s 0 0 (zOwn B K (B + n))) (F0 m 105 ls []) := by
  unfold g_X3_moveArguments_105 at hf
  refine lv_iload X.1 X.2.1 dX3_moveArguments_105 (lv_at hl 4 rfl) ?_
  refine lv_iload X.1 X.2.1 dX3_moveArguments_107 (lv_at hl 3 rfl) ?_
  refine lv_icmp_ge (tgt := 149) X.1 X.2.1 dX3_moveArguments_109 (by decide) (fun c1 => ?_) (fun c1 => ?_)
  · replace hf := zif_pos c1 hf
    obtain rfl := zi1 hf
    exact ze_retV X hr hlk hW (Nat.le_refl _) (Nat.le_refl _) dX3_moveArguments_149
  · replace hf := zif_neg c1 hf
    refine lv_iload_n X.1 X.2.1 dX3_moveArguments_112 rfl (lv_at hl 2 rfl) ?_
    refine lv_iconst (v := 1) X.1 X.2.1 dX3_moveArguments_113 (by decide) ?_
    refine lv_iadd X.1 X.2.1 dX3_moveArguments_114 ?_
    refine lv_iload X.1 X.2.1 dX3_moveArguments_115 (lv_at hl 4 rfl) ?_
    refine lv_iadd X.1 X.2.1 dX3_moveArguments_117 ?_
    refine ze_aload_n X.1 X.2.1 dX3_moveArguments_118 rfl (lv_at hl 1 rfl) ?_
    obtain ⟨a2, rfl, k4, hg⟩ := zh_dr hf
    replace hf := hg
    refine ze_getIN X 5 3 28 (RX5, TX5, 4) rfl hW k4 rfl (by decide) kfl_X3_28 dX3_moveArguments_119 ?_
    refine lv_icmp_ge (tgt := 149) X.1 X.2.1 dX3_moveArguments_122 (by decide) (fun c5 => ?_) (fun c5 => ?_)
    · replace hf := zif_pos c5 hf
      obtain rfl := zi1 hf
      exact ze_retV X hr hlk hW (Nat.le_refl _) (Nat.le_refl _) dX3_moveArguments_149
    · replace hf := zif_neg c5 hf
      refine lv_aload_n X.1 X.2.1 dX3_moveArguments_125 rfl (lv_at hl 1 rfl) ?_
      refine ze_gtRN X 5 0 88 (RX5, TX5, 4) rfl hf hW k4 rfl (by decide) kfl_X3_88 dX3_moveArguments_126 (fun o6 hg => ?_)
      replace hf := hg
      refine lv_iload_n X.1 X.2.1 dX3_moveArguments_129 rfl (lv_at hl 2 rfl) ?_
      refine lv_iconst (v := 1) X.1 X.2.1 dX3_moveArguments_130 (by decide) ?_
      refine lv_iadd X.1 X.2.1 dX3_moveArguments_131 ?_
      refine lv_iload X.1 X.2.1 dX3_moveArguments_132 (lv_at hl 4 rfl) ?_
      refine lv_iadd X.1 X.2.1 dX3_moveArguments_134 ?_
      refine lv_aload_n X.1 X.2.1 dX3_moveArguments_135 rfl (lv_at hl 0 rfl) ?_
      refine ze_gtR X 3 4 25 (RX3, TX3, 5) rfl hf hW hK0 rfl (by decide) kfl_X3_25 dX3_moveArguments_136 (fun o7 hg => ?_)
      replace hf := hg
      refine lv_iload X.1 X.2.1 dX3_moveArguments_139 (lv_at hl 4 rfl) ?_
      obtain ⟨a8, rfl, k10, hg⟩ := zh_dr hf
      replace hf := hg
      refine ze_iald X hf hW k10 dX3_moveArguments_141 (fun v11 hg => ?_)
      replace hf := hg
      obtain ⟨a12, rfl, k14, hg⟩ := zh_dr hf
      replace hf := hg
      refine ze_iast X hf hW k14 dX3_moveArguments_142 (fun I15 H locs hg hV => ?_)
      replace hf := hg
      replace hW := hV
      refine ze_iinc (lv' := [(5, .int (x5 + (1 : Int32))), (0, .ref (B + a0)), (1, .ref (B + a2)), (2, .int x2), (4, .int x4)]) (d := 1) X.1 X.2.1 dX3_moveArguments_143 hl (k := 4) rfl (by decide) (by decide) rfl (fun ls hk => ?_)
      replace hl := hk
      refine lv_goto (tgt := 105) X.1 X.2.1 dX3_moveArguments_146 (by decide) ?_
      exact hkself _ _ _ _ _ _ _ _ hf hW (lv_sub hl [1, 2, 3, 4, 0] rfl)
set_option maxRecDepth 100000 in
set_option maxHeartbeats 4000000 in
theorem w_X3_moveArguments_105 {F : Nat} {a0 : Nat}  (X : zX p s m c cX3_moveArguments 9 RX3 D) (hr : meth.sig.returnType = none) (hlk : meth.locks = false) (hK0 : (K a0).1 = 13)  {t : Nat} {x1 : Option Nat} {x2 : Int32} {x4 : Int32} {x5 : Int32} (hf : f_X3_moveArguments_105 F K R a0  t I x1 x2 x4 x5 = some I') (hW : zS (zOwn B K (B + n)) D B n K I R s.heap H locs) (hl : lv_has ls 9 [(0, .ref (B + a0)), (1, zrf B x1), (2, .int x2), (4, .int x4), (5, .int x5)]) : W p l e ({ frames := 2, cells := 0, slots := 0, locals := 61 } : Room) s m args below meth c H locs 0 0 (MQ below (zQv D (zOwn B K (B + n)) B n K I' R) args s 0 0 (zOwn B K (B + n))) (F0 m 105 ls []) := by
  have key : ∀ t : Nat, ∀ (I : zI) (x1 : Option Nat) (x2 : Int32) (x4 : Int32) (x5 : Int32) (H : Heap) (locs : List Loc) (ls : Array Slot), f_X3_moveArguments_105 F K R a0  t I x1 x2 x4 x5 = some I' → zS (zOwn B K (B + n)) D B n K I R s.heap H locs → lv_has ls 9 [(0, .ref (B + a0)), (1, zrf B x1), (2, .int x2), (4, .int x4), (5, .int x5)] → W p l e ({ frames := 2, cells := 0, slots := 0, locals := 61 } : Room) s m args below meth c H locs 0 0 (MQ below (zQv D (zOwn B K (B + n)) B n K I' R) args s 0 0 (zOwn B K (B + n))) (F0 m 105 ls []) := by
    intro t
    induction t with
    | zero =>
      intro I x1 x2 x4 x5 H locs ls hf hW hl
      cases hf
    | succ t ih =>
      intro I x1 x2 x4 x5 H locs ls hf hW hl
      exact wg_X3_moveArguments_105 X hr hlk hK0  ih hf hW hl
  exact key t _ _ _ _ _ _ _ _ hf hW hl
set_option maxRecDepth 100000 in
set_option maxHeartbeats 4000000 in
theorem w_X3_moveArguments_96 {F : Nat} {a0 : Nat} {k20 : zI → Option Nat → Int32 → Int32 → Int32 → Int32 → Option (zI)} (X : zX p s m c cX3_moveArguments 9 RX3 D) (hr : meth.sig.returnType = none) (hlk : meth.locks = false) (hK0 : (K a0).1 = 13) (hk20 : ∀ (I : zI) (x1 : Option Nat) (x2 : Int32) (x3 : Int32) (x4 : Int32) (x5 : Int32) (H : Heap) (locs : List Loc) (ls : Array Slot), k20 I x1 x2 x3 x4 x5 = some I' → zS (zOwn B K (B + n)) D B n K I R s.heap H locs → lv_has ls 9 [(0, .ref (B + a0)), (1, zrf B x1), (2, .int x2), (3, .int x3), (4, .int x4), (5, .int x5)] → W p l e ({ frames := 2, cells := 0, slots := 0, locals := 61 } : Room) s m args below meth c H locs 0 0 (MQ below (zQv D (zOwn B K (B + n)) B n K I' R) args s 0 0 (zOwn B K (B + n))) (F0 m 20 ls [])) {x1 : Option Nat} {x2 : Int32} {x3 : Int32} {x4 : Int32} {x5 : Int32} (hf : f_X3_moveArguments_96 F K R a0 k20 I x1 x2 x3 x4 x5 = some I') (hW : zS (zOwn B K (B + n)) D B n K I R s.heap H locs) (hl : lv_has ls 9 [(0, .ref (B + a0)), (1, zrf B x1), (2, .int x2), (3, .int x3), (4, .int x4), (5, .int x5)]) : W p l e ({ frames := 2, cells := 0, slots := 0, locals := 61 } : Room) s m args below meth c H locs 0 0 (MQ below (zQv D (zOwn B K (B + n)) B n K I' R) args s 0 0 (zOwn B K (B + n))) (F0 m 96 ls []) := by
  unfold f_X3_moveArguments_96 at hf
  refine ze_iinc (lv' := [(5, .int (x5 + (1 : Int32))), (0, .ref (B + a0)), (1, zrf B x1), (2, .int x2), (3, .int x3), (4, .int x4)]) (d := 1) X.1 X.2.1 dX3_moveArguments_96 hl (k := 5) rfl (by decide) (by decide) rfl (fun ls hk => ?_)
  replace hl := hk
  refine lv_goto (tgt := 20) X.1 X.2.1 dX3_moveArguments_99 (by decide) ?_
  exact hk20 _ _ _ _ _ _ _ _ _ hf hW (lv_sub hl [1, 2, 3, 4, 5, 0] rfl)
set_option maxRecDepth 100000 in
set_option maxHeartbeats 4000000 in
theorem wg_X3_moveArguments_50 {F : Nat} {a0 : Nat} {k20 : zI → Option Nat → Int32 → Int32 → Int32 → Int32 → Option (zI)} (X : zX p s m c cX3_moveArguments 9 RX3 D) (hr : meth.sig.returnType = none) (hlk : meth.locks = false) (hK0 : (K a0).1 = 13) (hk20 : ∀ (I : zI) (x1 : Option Nat) (x2 : Int32) (x3 : Int32) (x4 : Int32) (x5 : Int32) (H : Heap) (locs : List Loc) (ls : Array Slot), k20 I x1 x2 x3 x4 x5 = some I' → zS (zOwn B K (B + n)) D B n K I R s.heap H locs → lv_has ls 9 [(0, .ref (B + a0)), (1, zrf B x1), (2, .int x2), (3, .int x3), (4, .int x4), (5, .int x5)] → W p l e ({ frames := 2, cells := 0, slots := 0, locals := 61 } : Room) s m args below meth c H locs 0 0 (MQ below (zQv D (zOwn B K (B + n)) B n K I' R) args s 0 0 (zOwn B K (B + n))) (F0 m 20 ls [])) {kself : zI → Option Nat → Int32 → Int32 → Int32 → Int32 → Int32 → Int32 → Option (zI)} (hkself : ∀ (I : zI) (x1 : Option Nat) (x2 : Int32) (x3 : Int32) (x4 : Int32) (x5 : Int32) (x7 : Int32) (x8 : Int32) (H : Heap) (locs : List Loc) (ls : Array Slot), kself I x1 x2 x3 x4 x5 x7 x8 = some I' → zS (zOwn B K (B + n)) D B n K I R s.heap H locs → lv_has ls 9 [(0, .ref (B + a0)), (1, zrf B x1), (2, .int x2), (3, .int x3), (4, .int x4), (5, .int x5), (7, .int x7), (8, .int x8)] → W p l e ({ frames := 2, cells := 0, slots := 0, locals := 61 } : Room) s m args below meth c H locs 0 0 (MQ below (zQv D (zOwn B K (B + n)) B n K I' R) args s 0 0 (zOwn B K (B + n))) (F0 m 50 ls [])) {x1 : Option Nat} {x2 : Int32} {x3 : Int32} {x4 : Int32} {x5 : Int32} {x7 : Int32} {x8 : Int32} (hf : g_X3_moveArguments_50 F K R a0 k20 kself I x1 x2 x3 x4 x5 x7 x8 = some I') (hW : zS (zOwn B K (B + n)) D B n K I R s.heap H locs) (hl : lv_has ls 9 [(0, .ref (B + a0)), (1, zrf B x1), (2, .int x2), (3, .int x3), (4, .int x4), (5, .int x5), (7, .int x7), (8, .int x8)]) : W p l e ({ frames := 2, cells := 0, slots := 0, locals := 61 } : Room) s m args below meth c H locs 0 0 (MQ below (zQv D (zOwn B K (B + n)) B n K I' R) args s 0 0 (zOwn B K (B + n))) (F0 m 50 ls []) := by
  unfold g_X3_moveArguments_50 at hf
  refine lv_iload X.1 X.2.1 dX3_moveArguments_50 (lv_at hl 7 rfl) ?_
  refine lv_iload X.1 X.2.1 dX3_moveArguments_52 (lv_at hl 6 rfl) ?_
  refine lv_icmp_ge (tgt := 96) X.1 X.2.1 dX3_moveArguments_54 (by decide) (fun c16 => ?_) (fun c16 => ?_)
  · replace hf := zif_pos c16 hf
    exact w_X3_moveArguments_96 X hr hlk hK0 hk20 hf hW (lv_sub hl [0, 1, 2, 3, 4, 5] rfl)
  · replace hf := zif_neg c16 hf
    refine lv_iload X.1 X.2.1 dX3_moveArguments_57 (lv_at hl 7 rfl) ?_
    refine ze_aload_n X.1 X.2.1 dX3_moveArguments_59 rfl (lv_at hl 1 rfl) ?_
    obtain ⟨a17, rfl, k19, hg⟩ := zh_dr hf
    replace hf := hg
    refine ze_getIN X 5 3 28 (RX5, TX5, 4) rfl hW k19 rfl (by decide) kfl_X3_28 dX3_moveArguments_60 ?_
    refine lv_icmp_ge (tgt := 96) X.1 X.2.1 dX3_moveArguments_63 (by decide) (fun c20 => ?_) (fun c20 => ?_)
    · replace hf := zif_pos c20 hf
      exact w_X3_moveArguments_96 X hr hlk hK0 hk20 hf hW (lv_sub hl [0, 1, 2, 3, 4, 5] rfl)
    · replace hf := zif_neg c20 hf
      refine lv_iload X.1 X.2.1 dX3_moveArguments_66 (lv_at hl 4 rfl) ?_
      refine lv_bipush (v := 32) X.1 X.2.1 dX3_moveArguments_68 (by decide) ?_
      refine lv_icmp_ge (tgt := 96) X.1 X.2.1 dX3_moveArguments_70 (by decide) (fun c21 => ?_) (fun c21 => ?_)
      · replace hf := zif_pos c21 hf
        exact w_X3_moveArguments_96 X hr hlk hK0 hk20 hf hW (lv_sub hl [0, 1, 2, 3, 4, 5] rfl)
      · replace hf := zif_neg c21 hf
        refine lv_aload_n X.1 X.2.1 dX3_moveArguments_73 rfl (lv_at hl 0 rfl) ?_
        refine ze_gtR X 3 4 25 (RX3, TX3, 5) rfl hf hW hK0 rfl (by decide) kfl_X3_25 dX3_moveArguments_74 (fun o22 hg => ?_)
        replace hf := hg
        refine lv_iload X.1 X.2.1 dX3_moveArguments_77 (lv_at hl 4 rfl) ?_
        refine lv_aload_n X.1 X.2.1 dX3_moveArguments_79 rfl (lv_at hl 1 rfl) ?_
        refine ze_gtRN X 5 0 88 (RX5, TX5, 4) rfl hf hW k19 rfl (by decide) kfl_X3_88 dX3_moveArguments_80 (fun o23 hg => ?_)
        replace hf := hg
        refine lv_iload X.1 X.2.1 dX3_moveArguments_83 (lv_at hl 7 rfl) ?_
        obtain ⟨a24, rfl, k26, hg⟩ := zh_dr hf
        replace hf := hg
        refine ze_iald X hf hW k26 dX3_moveArguments_85 (fun v27 hg => ?_)
        replace hf := hg
        obtain ⟨a28, rfl, k30, hg⟩ := zh_dr hf
        replace hf := hg
        refine ze_iast X hf hW k30 dX3_moveArguments_86 (fun I31 H locs hg hV => ?_)
        replace hf := hg
        replace hW := hV
        refine ze_iinc (lv' := [(4, .int (x4 + (1 : Int32))), (0, .ref (B + a0)), (1, .ref (B + a17)), (2, .int x2), (3, .int x3), (5, .int x5), (7, .int x7), (8, .int x8)]) (d := 1) X.1 X.2.1 dX3_moveArguments_87 hl (k := 4) rfl (by decide) (by decide) rfl (fun ls hk => ?_)
        replace hl := hk
        refine ze_iinc (lv' := [(8, .int (x8 + (1 : Int32))), (4, .int (x4 + (1 : Int32))), (0, .ref (B + a0)), (1, .ref (B + a17)), (2, .int x2), (3, .int x3), (5, .int x5), (7, .int x7)]) (d := 1) X.1 X.2.1 dX3_moveArguments_90 hl (k := 7) rfl (by decide) (by decide) rfl (fun ls hk => ?_)
        replace hl := hk
        refine lv_goto (tgt := 50) X.1 X.2.1 dX3_moveArguments_93 (by decide) ?_
        exact hkself _ _ _ _ _ _ _ _ _ _ _ hf hW (lv_sub hl [2, 3, 4, 5, 1, 6, 7, 0] rfl)
set_option maxRecDepth 100000 in
set_option maxHeartbeats 4000000 in
theorem w_X3_moveArguments_50 {F : Nat} {a0 : Nat} {k20 : zI → Option Nat → Int32 → Int32 → Int32 → Int32 → Option (zI)} (X : zX p s m c cX3_moveArguments 9 RX3 D) (hr : meth.sig.returnType = none) (hlk : meth.locks = false) (hK0 : (K a0).1 = 13) (hk20 : ∀ (I : zI) (x1 : Option Nat) (x2 : Int32) (x3 : Int32) (x4 : Int32) (x5 : Int32) (H : Heap) (locs : List Loc) (ls : Array Slot), k20 I x1 x2 x3 x4 x5 = some I' → zS (zOwn B K (B + n)) D B n K I R s.heap H locs → lv_has ls 9 [(0, .ref (B + a0)), (1, zrf B x1), (2, .int x2), (3, .int x3), (4, .int x4), (5, .int x5)] → W p l e ({ frames := 2, cells := 0, slots := 0, locals := 61 } : Room) s m args below meth c H locs 0 0 (MQ below (zQv D (zOwn B K (B + n)) B n K I' R) args s 0 0 (zOwn B K (B + n))) (F0 m 20 ls [])) {t : Nat} {x1 : Option Nat} {x2 : Int32} {x3 : Int32} {x4 : Int32} {x5 : Int32} {x7 : Int32} {x8 : Int32} (hf : f_X3_moveArguments_50 F K R a0 k20 t I x1 x2 x3 x4 x5 x7 x8 = some I') (hW : zS (zOwn B K (B + n)) D B n K I R s.heap H locs) (hl : lv_has ls 9 [(0, .ref (B + a0)), (1, zrf B x1), (2, .int x2), (3, .int x3), (4, .int x4), (5, .int x5), (7, .int x7), (8, .int x8)]) : W p l e ({ frames := 2, cells := 0, slots := 0, locals := 61 } : Room) s m args below meth c H locs 0 0 (MQ below (zQv D (zOwn B K (B + n)) B n K I' R) args s 0 0 (zOwn B K (B + n))) (F0 m 50 ls []) := by
  have key : ∀ t : Nat, ∀ (I : zI) (x1 : Option Nat) (x2 : Int32) (x3 : Int32) (x4 : Int32) (x5 : Int32) (x7 : Int32) (x8 : Int32) (H : Heap) (locs : List Loc) (ls : Array Slot), f_X3_moveArguments_50 F K R a0 k20 t I x1 x2 x3 x4 x5 x7 x8 = some I' → zS (zOwn B K (B + n)) D B n K I R s.heap H locs → lv_has ls 9 [(0, .ref (B + a0)), (1, zrf B x1), (2, .int x2), (3, .int x3), (4, .int x4), (5, .int x5), (7, .int x7), (8, .int x8)] → W p l e ({ frames := 2, cells := 0, slots := 0, locals := 61 } : Room) s m args below meth c H locs 0 0 (MQ below (zQv D (zOwn B K (B + n)) B n K I' R) args s 0 0 (zOwn B K (B + n))) (F0 m 50 ls []) := by
    intro t
    induction t with
    | zero =>
      intro I x1 x2 x3 x4 x5 x7 x8 H locs ls hf hW hl
      cases hf
    | succ t ih =>
      intro I x1 x2 x3 x4 x5 x7 x8 H locs ls hf hW hl
      exact wg_X3_moveArguments_50 X hr hlk hK0 hk20 ih hf hW hl
  exact key t _ _ _ _ _ _ _ _ _ _ _ hf hW hl
set_option maxRecDepth 100000 in
set_option maxHeartbeats 4000000 in
theorem wg_X3_moveArguments_20 {F : Nat} {a0 : Nat}  (X : zX p s m c cX3_moveArguments 9 RX3 D) (hr : meth.sig.returnType = none) (hlk : meth.locks = false) (hK0 : (K a0).1 = 13)  {kself : zI → Option Nat → Int32 → Int32 → Int32 → Int32 → Option (zI)} (hkself : ∀ (I : zI) (x1 : Option Nat) (x2 : Int32) (x3 : Int32) (x4 : Int32) (x5 : Int32) (H : Heap) (locs : List Loc) (ls : Array Slot), kself I x1 x2 x3 x4 x5 = some I' → zS (zOwn B K (B + n)) D B n K I R s.heap H locs → lv_has ls 9 [(0, .ref (B + a0)), (1, zrf B x1), (2, .int x2), (3, .int x3), (4, .int x4), (5, .int x5)] → W p l e ({ frames := 2, cells := 0, slots := 0, locals := 61 } : Room) s m args below meth c H locs 0 0 (MQ below (zQv D (zOwn B K (B + n)) B n K I' R) args s 0 0 (zOwn B K (B + n))) (F0 m 20 ls [])) {x1 : Option Nat} {x2 : Int32} {x3 : Int32} {x4 : Int32} {x5 : Int32} (hf : g_X3_moveArguments_20 F K R a0  kself I x1 x2 x3 x4 x5 = some I') (hW : zS (zOwn B K (B + n)) D B n K I R s.heap H locs) (hl : lv_has ls 9 [(0, .ref (B + a0)), (1, zrf B x1), (2, .int x2), (3, .int x3), (4, .int x4), (5, .int x5)]) : W p l e ({ frames := 2, cells := 0, slots := 0, locals := 61 } : Room) s m args below meth c H locs 0 0 (MQ below (zQv D (zOwn B K (B + n)) B n K I' R) args s 0 0 (zOwn B K (B + n))) (F0 m 20 ls []) := by
  unfold g_X3_moveArguments_20 at hf
  refine lv_iload X.1 X.2.1 dX3_moveArguments_20 (lv_at hl 5 rfl) ?_
  refine lv_iload_n X.1 X.2.1 dX3_moveArguments_22 rfl (lv_at hl 3 rfl) ?_
  refine lv_icmp_ge (tgt := 102) X.1 X.2.1 dX3_moveArguments_23 (by decide) (fun c32 => ?_) (fun c32 => ?_)
  · replace hf := zif_pos c32 hf
    refine lv_iconst (v := 0) X.1 X.2.1 dX3_moveArguments_102 (by decide) ?_
    refine lv_istore (lv' := [(5, .int (0 : Int32)), (0, .ref (B + a0)), (1, zrf B x1), (2, .int x2), (3, .int x3), (4, .int x4)]) X.1 X.2.1 dX3_moveArguments_103 hl (by decide) rfl (fun ls hk => ?_)
    replace hl := hk
    exact w_X3_moveArguments_105 X hr hlk hK0 hf hW (lv_sub hl [1, 2, 3, 5, 0] rfl)
  · replace hf := zif_neg c32 hf
    refine lv_aload_n X.1 X.2.1 dX3_moveArguments_26 rfl (lv_at hl 0 rfl) ?_
    refine ze_gtR X 3 3 22 (RX3, TX3, 5) rfl hf hW hK0 rfl (by decide) kfl_X3_22 dX3_moveArguments_27 (fun o33 hg => ?_)
    replace hf := hg
    refine lv_iload X.1 X.2.1 dX3_moveArguments_30 (lv_at hl 5 rfl) ?_
    obtain ⟨a34, rfl, k36, hg⟩ := zh_dr hf
    replace hf := hg
    refine ze_iald X hf hW k36 dX3_moveArguments_32 (fun v37 hg => ?_)
    replace hf := hg
    refine lv_istore (lv' := [(6, .int v37), (0, .ref (B + a0)), (1, zrf B x1), (2, .int x2), (3, .int x3), (4, .int x4), (5, .int x5)]) X.1 X.2.1 dX3_moveArguments_33 hl (by decide) rfl (fun ls hk => ?_)
    replace hl := hk
    refine lv_iload X.1 X.2.1 dX3_moveArguments_35 (lv_at hl 0 rfl) ?_
    refine ze_aload_n X.1 X.2.1 dX3_moveArguments_37 rfl (lv_at hl 2 rfl) ?_
    refine lv_iload X.1 X.2.1 dX3_moveArguments_38 (lv_at hl 0 rfl) ?_
    obtain ⟨a38, rfl, k40, hg⟩ := zh_dr hf
    replace hf := hg
    obtain ⟨v41, h42, hg⟩ := zh_bd hf
    replace hf := hg
    refine ze_aftI0 (ze_runV (As := [.int v37]) (rest := [.int v37]) X 5 62 (c_X5_spanOf l D B n k40 h42) vX5_spanOf kml_X3_62 hW k40 rfl rfl ⟨by decide, by decide⟩ rfl hl.1 rfl (Nat.le_of_ble_eq_true rfl) ⟨Nat.le_refl _, Nat.le_refl _⟩ dX3_moveArguments_40) hW (fun H locs hV => ?_)
    replace hW := hV
    refine lv_iadd X.1 X.2.1 dX3_moveArguments_43 ?_
    refine ze_nm hf (fun v43 hg => ?_)
    replace hf := hg
    refine lv_istore (lv' := [(7, .int v43), (6, .int v37), (0, .ref (B + a0)), (1, .ref (B + a38)), (2, .int x2), (3, .int x3), (4, .int x4), (5, .int x5)]) X.1 X.2.1 dX3_moveArguments_44 hl (by decide) rfl (fun ls hk => ?_)
    replace hl := hk
    refine lv_iload X.1 X.2.1 dX3_moveArguments_46 (lv_at hl 1 rfl) ?_
    refine lv_istore (lv' := [(8, .int v37), (7, .int v43), (6, .int v37), (0, .ref (B + a0)), (1, .ref (B + a38)), (2, .int x2), (3, .int x3), (4, .int x4), (5, .int x5)]) X.1 X.2.1 dX3_moveArguments_48 hl (by decide) rfl (fun ls hk => ?_)
    replace hl := hk
    exact w_X3_moveArguments_50 X hr hlk hK0 hkself hf hW (lv_sub hl [3, 4, 5, 6, 7, 8, 1, 0] rfl)
set_option maxRecDepth 100000 in
set_option maxHeartbeats 4000000 in
theorem w_X3_moveArguments_20 {F : Nat} {a0 : Nat}  (X : zX p s m c cX3_moveArguments 9 RX3 D) (hr : meth.sig.returnType = none) (hlk : meth.locks = false) (hK0 : (K a0).1 = 13)  {t : Nat} {x1 : Option Nat} {x2 : Int32} {x3 : Int32} {x4 : Int32} {x5 : Int32} (hf : f_X3_moveArguments_20 F K R a0  t I x1 x2 x3 x4 x5 = some I') (hW : zS (zOwn B K (B + n)) D B n K I R s.heap H locs) (hl : lv_has ls 9 [(0, .ref (B + a0)), (1, zrf B x1), (2, .int x2), (3, .int x3), (4, .int x4), (5, .int x5)]) : W p l e ({ frames := 2, cells := 0, slots := 0, locals := 61 } : Room) s m args below meth c H locs 0 0 (MQ below (zQv D (zOwn B K (B + n)) B n K I' R) args s 0 0 (zOwn B K (B + n))) (F0 m 20 ls []) := by
  have key : ∀ t : Nat, ∀ (I : zI) (x1 : Option Nat) (x2 : Int32) (x3 : Int32) (x4 : Int32) (x5 : Int32) (H : Heap) (locs : List Loc) (ls : Array Slot), f_X3_moveArguments_20 F K R a0  t I x1 x2 x3 x4 x5 = some I' → zS (zOwn B K (B + n)) D B n K I R s.heap H locs → lv_has ls 9 [(0, .ref (B + a0)), (1, zrf B x1), (2, .int x2), (3, .int x3), (4, .int x4), (5, .int x5)] → W p l e ({ frames := 2, cells := 0, slots := 0, locals := 61 } : Room) s m args below meth c H locs 0 0 (MQ below (zQv D (zOwn B K (B + n)) B n K I' R) args s 0 0 (zOwn B K (B + n))) (F0 m 20 ls []) := by
    intro t
    induction t with
    | zero =>
      intro I x1 x2 x3 x4 x5 H locs ls hf hW hl
      cases hf
    | succ t ih =>
      intro I x1 x2 x3 x4 x5 H locs ls hf hW hl
      exact wg_X3_moveArguments_20 X hr hlk hK0  ih hf hW hl
  exact key t _ _ _ _ _ _ _ _ _ hf hW hl
set_option maxRecDepth 100000 in
set_option maxHeartbeats 4000000 in
theorem c_X3_moveArguments (l : Launch) (D : zD) (B n : Nat) {F : Nat} {K : zK} {I : zI} {R : zR} {a0 : Nat} {x1 : Option Nat} {x2 : Int32} {I' : zI} (hK0 : (K a0).1 = 13) (hf : f_X3_moveArguments F K I R a0 x1 x2 = some I') : zM l yX3_moveArguments cX3_moveArguments 9 (none) ({ frames := 2, cells := 0, slots := 0, locals := 61 } : Room) D B n K I R [.ref (B + a0), zrf B x1, .int x2] (zQv D (zOwn B K (B + n)) B n K I' R) := by
  refine ze_entry (lv0 := [(0, .ref (B + a0)), (1, zrf B x1), (2, .int x2)]) (by decide) (by simp [lg_sl, zcat, zcat_i, zcat_r, zcat_l]) (by simp [lv_args, zcat, zcat_i, zcat_r, zcat_l]) (fun p e s m below meth c X hr hlk hin hW ls hl => ?_)
  unfold f_X3_moveArguments at hf
  refine ze_aload_n X.1 X.2.1 dX3_moveArguments_0 rfl (lv_at hl 1 rfl) ?_
  refine lv_iload_n X.1 X.2.1 dX3_moveArguments_1 rfl (lv_at hl 2 rfl) ?_
  obtain ⟨a44, rfl, k46, hg⟩ := zh_dr hf
  replace hf := hg
  obtain ⟨v47, h48, hg⟩ := zh_bd hf
  replace hf := hg
  refine ze_aftI0 (ze_runV (As := [.int x2]) (rest := []) X 5 59 (c_X5_argumentsOf l D B n k46 h48) vX5_argumentsOf kml_X3_59 hW k46 rfl rfl ⟨by decide, by decide⟩ rfl hl.1 rfl (Nat.le_of_ble_eq_true rfl) ⟨Nat.le_refl _, Nat.le_refl _⟩ dX3_moveArguments_2) hW (fun H locs hV => ?_)
  replace hW := hV
  refine lv_aload_n X.1 X.2.1 dX3_moveArguments_5 rfl (lv_at hl 0 rfl) ?_
  refine ze_gtR X 3 3 22 (RX3, TX3, 5) rfl hf hW hK0 rfl (by decide) kfl_X3_22 dX3_moveArguments_6 (fun o49 hg => ?_)
  replace hf := hg
  obtain ⟨a50, rfl, k52, hg⟩ := zh_dr hf
  replace hf := hg
  refine ze_alen X 1 (by decide) hW k52 dX3_moveArguments_9 ?_
  refine ze_min X hl.1 kml_X3_75 kmath_min_1 kmath_i kmath_min_2 (by decide) (by decide) (Nat.zero_le _) (Nat.zero_le _) dX3_moveArguments_10 ?_
  refine ze_nm hf (fun v53 hg => ?_)
  replace hf := hg
  refine lv_istore_n (i := 3) (lv' := [(3, .int v53), (0, .ref (B + a0)), (1, .ref (B + a44)), (2, .int x2)]) X.1 X.2.1 dX3_moveArguments_13 rfl hl (by decide) rfl (fun ls hk => ?_)
  replace hl := hk
  refine lv_iconst (v := 0) X.1 X.2.1 dX3_moveArguments_14 (by decide) ?_
  refine lv_istore (lv' := [(4, .int (0 : Int32)), (3, .int v53), (0, .ref (B + a0)), (1, .ref (B + a44)), (2, .int x2)]) X.1 X.2.1 dX3_moveArguments_15 hl (by decide) rfl (fun ls hk => ?_)
  replace hl := hk
  refine lv_iconst (v := 0) X.1 X.2.1 dX3_moveArguments_17 (by decide) ?_
  refine lv_istore (lv' := [(5, .int (0 : Int32)), (4, .int (0 : Int32)), (3, .int v53), (0, .ref (B + a0)), (1, .ref (B + a44)), (2, .int x2)]) X.1 X.2.1 dX3_moveArguments_18 hl (by decide) rfl (fun ls hk => ?_)
  replace hl := hk
  exact w_X3_moveArguments_20 X hr hlk hK0 hf hW (lv_sub hl [3, 4, 5, 2, 1, 0] rfl)
end

/-! LeastPatterns$Term.compareNodes(ILLeastPatterns$Term;II)I -/
def g_X5_compareNodes_35 (F : Nat) (K : zK) (I : zI) (R : zR) (a0 : Nat)  (kself : Int32 → Option Nat → Int32 → Int32 → Int32 → Option (Int32)) (x1 : Int32) (x2 : Option Nat) (x3 : Int32) (x4 : Int32) (x5 : Int32) : Option (Int32) :=
  if x4 ≤ x5 then
    some (0 : Int32)
  else
    zbd (some (R a0 0)) fun o2 =>
    zbd (zdr K o2 1) fun a3 =>
    zbd (zrd K I a3 (x1 + x5)) fun v6 =>
    zbd (zdr K x2 15) fun a7 =>
    zbd (some (R a7 0)) fun o10 =>
    zbd (zdr K o10 1) fun a11 =>
    zbd (zrd K I a11 (x3 + x5)) fun v14 =>
    if v6 = v14 then
      kself x1 (some a7) x3 x4 (x5 + (1 : Int32))
    else
      if v14 ≤ v6 then
        some (1 : Int32)
      else
        some (-1 : Int32)
def f_X5_compareNodes_35 (F : Nat) (K : zK) (I : zI) (R : zR) (a0 : Nat)  : Nat → Int32 → Option Nat → Int32 → Int32 → Int32 → Option (Int32)
  | 0, _, _, _, _, _ => none
  | t + 1, x1, x2, x3, x4, x5 => g_X5_compareNodes_35 F K I R a0  (f_X5_compareNodes_35 F K I R a0  t) x1 x2 x3 x4 x5
def f_X5_compareNodes (F : Nat) (K : zK) (I : zI) (R : zR) (a0 : Nat) (x1 : Int32) (x2 : Option Nat) (x3 : Int32) (x4 : Int32) : Option (Int32) :=
  if x1 < (0 : Int32) then
    some (1 : Int32)
  else
    if ((I a0 3) - x4) < x1 then
      some (1 : Int32)
    else
      if x3 < (0 : Int32) then
        some (1 : Int32)
      else
        zbd (zdr K x2 15) fun a20 =>
        if x3 ≤ ((I a20 3) - x4) then
          f_X5_compareNodes_35 F K I R a0 F x1 (some a20) x3 x4 (0 : Int32)
        else
          some (1 : Int32)
section
variable {p : Program} {l : Launch} {e : Env} {s : State} {m : MethodId} {args : Array Value} {below : List Frame} {meth : Method} {c : Code} {D : zD} {B n n0 n' fd ld : Nat} {K K0 K' : zK} {I I' : zI} {R R' : zR} {H : Heap} {locs : List Loc} {ls : Array Slot} {r : Int32}
set_option maxRecDepth 100000 in
set_option maxHeartbeats 4000000 in
theorem wg_X5_compareNodes_35 {F : Nat} {a0 : Nat}  (X : zX p s m c cX5_compareNodes 8 RX5 D) (hr : meth.sig.returnType = some .int) (hlk : meth.locks = false) (hK0 : (K a0).1 = 15)  {kself : Int32 → Option Nat → Int32 → Int32 → Int32 → Option (Int32)} (hkself : ∀ (x1 : Int32) (x2 : Option Nat) (x3 : Int32) (x4 : Int32) (x5 : Int32) (H : Heap) (locs : List Loc) (ls : Array Slot), kself x1 x2 x3 x4 x5 = some r → zS (zOwn B K (B + n)) D B n K I R s.heap H locs → lv_has ls 8 [(0, .ref (B + a0)), (1, .int x1), (2, zrf B x2), (3, .int x3), (4, .int x4), (5, .int x5)] → W p l e ({ frames := 1, cells := 0, slots := 0, locals := 40 } : Room) s m args below meth c H locs 0 0 (MQ below (zQi D (zOwn B K (B + n)) r B n K I R) args s 0 0 (zOwn B K (B + n))) (F0 m 35 ls [])) {x1 : Int32} {x2 : Option Nat} {x3 : Int32} {x4 : Int32} {x5 : Int32} (hf : g_X5_compareNodes_35 F K I R a0  kself x1 x2 x3 x4 x5 = some r) (hW : zS (zOwn B K (B + n)) D B n K I R s.heap H locs) (hl : lv_has ls 8 [(0, .ref (B + a0)), (1, .int x1), (2, zrf B x2), (3, .int x3), (4, .int x4), (5, .int x5)]) : W p l e ({ frames := 1, cells := 0, slots := 0, locals := 40 } : Room) s m args below meth c H locs 0 0 (MQ below (zQi D (zOwn B K (B + n)) r B n K I R) args s 0 0 (zOwn B K (B + n))) (F0 m 35 ls []) := by
  unfold g_X5_compareNodes_35 at hf
  refine lv_iload X.1 X.2.1 dX5_compareNodes_35 (lv_at hl 5 rfl) ?_
  refine lv_iload X.1 X.2.1 dX5_compareNodes_37 (lv_at hl 4 rfl) ?_
  refine lv_icmp_ge (tgt := 90) X.1 X.2.1 dX5_compareNodes_39 (by decide) (fun c1 => ?_) (fun c1 => ?_)
  · replace hf := zif_pos c1 hf
    refine lv_iconst (v := 0) X.1 X.2.1 dX5_compareNodes_90 (by decide) ?_
    obtain rfl := zi1 hf
    exact ze_retI X hr hlk hW (Nat.le_refl _) (Nat.le_refl _) dX5_compareNodes_91
  · replace hf := zif_neg c1 hf
    refine lv_aload_n X.1 X.2.1 dX5_compareNodes_42 rfl (lv_at hl 0 rfl) ?_
    refine ze_gtR X 5 0 9 (RX5, TX5, 4) rfl hf hW hK0 rfl (by decide) kfl_X5_9 dX5_compareNodes_43 (fun o2 hg => ?_)
    replace hf := hg
    refine lv_iload_n X.1 X.2.1 dX5_compareNodes_46 rfl (lv_at hl 1 rfl) ?_
    refine lv_iload X.1 X.2.1 dX5_compareNodes_47 (lv_at hl 5 rfl) ?_
    refine lv_iadd X.1 X.2.1 dX5_compareNodes_49 ?_
    obtain ⟨a3, rfl, k5, hg⟩ := zh_dr hf
    replace hf := hg
    refine ze_iald X hf hW k5 dX5_compareNodes_50 (fun v6 hg => ?_)
    replace hf := hg
    refine lv_istore (lv' := [(6, .int v6), (0, .ref (B + a0)), (1, .int x1), (2, zrf B x2), (3, .int x3), (4, .int x4), (5, .int x5)]) X.1 X.2.1 dX5_compareNodes_51 hl (by decide) rfl (fun ls hk => ?_)
    replace hl := hk
    refine ze_aload_n X.1 X.2.1 dX5_compareNodes_53 rfl (lv_at hl 3 rfl) ?_
    obtain ⟨a7, rfl, k9, hg⟩ := zh_dr hf
    replace hf := hg
    refine ze_gtR X 5 0 9 (RX5, TX5, 4) rfl hf hW k9 rfl (by decide) kfl_X5_9 dX5_compareNodes_54 (fun o10 hg => ?_)
    replace hf := hg
    refine lv_iload_n X.1 X.2.1 dX5_compareNodes_57 rfl (lv_at hl 4 rfl) ?_
    refine lv_iload X.1 X.2.1 dX5_compareNodes_58 (lv_at hl 6 rfl) ?_
    refine lv_iadd X.1 X.2.1 dX5_compareNodes_60 ?_
    obtain ⟨a11, rfl, k13, hg⟩ := zh_dr hf
    replace hf := hg
    refine ze_iald X hf hW k13 dX5_compareNodes_61 (fun v14 hg => ?_)
    replace hf := hg
    refine lv_istore (lv' := [(7, .int v14), (6, .int v6), (0, .ref (B + a0)), (1, .int x1), (2, .ref (B + a7)), (3, .int x3), (4, .int x4), (5, .int x5)]) X.1 X.2.1 dX5_compareNodes_62 hl (by decide) rfl (fun ls hk => ?_)
    replace hl := hk
    refine lv_iload X.1 X.2.1 dX5_compareNodes_64 (lv_at hl 1 rfl) ?_
    refine lv_iload X.1 X.2.1 dX5_compareNodes_66 (lv_at hl 0 rfl) ?_
    refine lv_icmp_eq (tgt := 84) X.1 X.2.1 dX5_compareNodes_68 (by decide) (fun c15 => ?_) (fun c15 => ?_)
    · replace hf := zif_pos c15 hf
      refine ze_iinc (lv' := [(5, .int (x5 + (1 : Int32))), (7, .int v14), (6, .int v6), (0, .ref (B + a0)), (1, .int x1), (2, .ref (B + a7)), (3, .int x3), (4, .int x4)]) (d := 1) X.1 X.2.1 dX5_compareNodes_84 hl (k := 7) rfl (by decide) (by decide) rfl (fun ls hk => ?_)
      replace hl := hk
      refine lv_goto (tgt := 35) X.1 X.2.1 dX5_compareNodes_87 (by decide) ?_
      exact hkself _ _ _ _ _ _ _ _ hf hW (lv_sub hl [3, 4, 5, 6, 7, 0] rfl)
    · replace hf := zif_neg c15 hf
      refine lv_iload X.1 X.2.1 dX5_compareNodes_71 (lv_at hl 1 rfl) ?_
      refine lv_iload X.1 X.2.1 dX5_compareNodes_73 (lv_at hl 0 rfl) ?_
      refine lv_icmp_ge (tgt := 82) X.1 X.2.1 dX5_compareNodes_75 (by decide) (fun c16 => ?_) (fun c16 => ?_)
      · replace hf := zif_pos c16 hf
        refine lv_iconst (v := 1) X.1 X.2.1 dX5_compareNodes_82 (by decide) ?_
        obtain rfl := zi1 hf
        exact ze_retI X hr hlk hW (Nat.le_refl _) (Nat.le_refl _) dX5_compareNodes_83
      · replace hf := zif_neg c16 hf
        refine lv_iconst (v := -1) X.1 X.2.1 dX5_compareNodes_78 (by decide) ?_
        refine lv_goto (tgt := 83) X.1 X.2.1 dX5_compareNodes_79 (by decide) ?_
        obtain rfl := zi1 hf
        exact ze_retI X hr hlk hW (Nat.le_refl _) (Nat.le_refl _) dX5_compareNodes_83
set_option maxRecDepth 100000 in
set_option maxHeartbeats 4000000 in
theorem w_X5_compareNodes_35 {F : Nat} {a0 : Nat}  (X : zX p s m c cX5_compareNodes 8 RX5 D) (hr : meth.sig.returnType = some .int) (hlk : meth.locks = false) (hK0 : (K a0).1 = 15)  {t : Nat} {x1 : Int32} {x2 : Option Nat} {x3 : Int32} {x4 : Int32} {x5 : Int32} (hf : f_X5_compareNodes_35 F K I R a0  t x1 x2 x3 x4 x5 = some r) (hW : zS (zOwn B K (B + n)) D B n K I R s.heap H locs) (hl : lv_has ls 8 [(0, .ref (B + a0)), (1, .int x1), (2, zrf B x2), (3, .int x3), (4, .int x4), (5, .int x5)]) : W p l e ({ frames := 1, cells := 0, slots := 0, locals := 40 } : Room) s m args below meth c H locs 0 0 (MQ below (zQi D (zOwn B K (B + n)) r B n K I R) args s 0 0 (zOwn B K (B + n))) (F0 m 35 ls []) := by
  have key : ∀ t : Nat, ∀ (x1 : Int32) (x2 : Option Nat) (x3 : Int32) (x4 : Int32) (x5 : Int32) (H : Heap) (locs : List Loc) (ls : Array Slot), f_X5_compareNodes_35 F K I R a0  t x1 x2 x3 x4 x5 = some r → zS (zOwn B K (B + n)) D B n K I R s.heap H locs → lv_has ls 8 [(0, .ref (B + a0)), (1, .int x1), (2, zrf B x2), (3, .int x3), (4, .int x4), (5, .int x5)] → W p l e ({ frames := 1, cells := 0, slots := 0, locals := 40 } : Room) s m args below meth c H locs 0 0 (MQ below (zQi D (zOwn B K (B + n)) r B n K I R) args s 0 0 (zOwn B K (B + n))) (F0 m 35 ls []) := by
    intro t
    induction t with
    | zero =>
      intro x1 x2 x3 x4 x5 H locs ls hf hW hl
      cases hf
    | succ t ih =>
      intro x1 x2 x3 x4 x5 H locs ls hf hW hl
      exact wg_X5_compareNodes_35 X hr hlk hK0  ih hf hW hl
  exact key t _ _ _ _ _ _ _ _ hf hW hl
set_option maxRecDepth 100000 in
set_option maxHeartbeats 4000000 in
theorem c_X5_compareNodes (l : Launch) (D : zD) (B n : Nat) {F : Nat} {K : zK} {I : zI} {R : zR} {a0 : Nat} {x1 : Int32} {x2 : Option Nat} {x3 : Int32} {x4 : Int32} {r : Int32} (hK0 : (K a0).1 = 15) (hf : f_X5_compareNodes F K I R a0 x1 x2 x3 x4 = some r) : zM l yX5_compareNodes cX5_compareNodes 8 (some .int) ({ frames := 1, cells := 0, slots := 0, locals := 40 } : Room) D B n K I R [.ref (B + a0), .int x1, zrf B x2, .int x3, .int x4] (zQi D (zOwn B K (B + n)) r B n K I R) := by
  refine ze_entry (lv0 := [(0, .ref (B + a0)), (1, .int x1), (2, zrf B x2), (3, .int x3), (4, .int x4)]) (by decide) (by simp [lg_sl, zcat, zcat_i, zcat_r, zcat_l]) (by simp [lv_args, zcat, zcat_i, zcat_r, zcat_l]) (fun p e s m below meth c X hr hlk hin hW ls hl => ?_)
  unfold f_X5_compareNodes at hf
  refine lv_iload_n X.1 X.2.1 dX5_compareNodes_0 rfl (lv_at hl 1 rfl) ?_
  refine lv_if_lt (tgt := 30) X.1 X.2.1 dX5_compareNodes_1 (by decide) (fun c17 => ?_) (fun c17 => ?_)
  · replace hf := zif_pos c17 hf
    refine lv_iconst (v := 1) X.1 X.2.1 dX5_compareNodes_30 (by decide) ?_
    obtain rfl := zi1 hf
    exact ze_retI X hr hlk hW (Nat.le_refl _) (Nat.le_refl _) dX5_compareNodes_31
  · replace hf := zif_neg c17 hf
    refine lv_iload_n X.1 X.2.1 dX5_compareNodes_4 rfl (lv_at hl 1 rfl) ?_
    refine lv_aload_n X.1 X.2.1 dX5_compareNodes_5 rfl (lv_at hl 0 rfl) ?_
    refine ze_getI X 5 3 21 (RX5, TX5, 4) rfl hW hK0 rfl (by decide) kfl_X5_21 dX5_compareNodes_6 ?_
    refine lv_iload X.1 X.2.1 dX5_compareNodes_9 (lv_at hl 4 rfl) ?_
    refine lv_isub X.1 X.2.1 dX5_compareNodes_11 ?_
    refine lv_icmp_gt (tgt := 30) X.1 X.2.1 dX5_compareNodes_12 (by decide) (fun c18 => ?_) (fun c18 => ?_)
    · replace hf := zif_pos c18 hf
      refine lv_iconst (v := 1) X.1 X.2.1 dX5_compareNodes_30 (by decide) ?_
      obtain rfl := zi1 hf
      exact ze_retI X hr hlk hW (Nat.le_refl _) (Nat.le_refl _) dX5_compareNodes_31
    · replace hf := zif_neg c18 hf
      refine lv_iload_n X.1 X.2.1 dX5_compareNodes_15 rfl (lv_at hl 3 rfl) ?_
      refine lv_if_lt (tgt := 30) X.1 X.2.1 dX5_compareNodes_16 (by decide) (fun c19 => ?_) (fun c19 => ?_)
      · replace hf := zif_pos c19 hf
        refine lv_iconst (v := 1) X.1 X.2.1 dX5_compareNodes_30 (by decide) ?_
        obtain rfl := zi1 hf
        exact ze_retI X hr hlk hW (Nat.le_refl _) (Nat.le_refl _) dX5_compareNodes_31
      · replace hf := zif_neg c19 hf
        refine lv_iload_n X.1 X.2.1 dX5_compareNodes_19 rfl (lv_at hl 3 rfl) ?_
        refine ze_aload_n X.1 X.2.1 dX5_compareNodes_20 rfl (lv_at hl 2 rfl) ?_
        obtain ⟨a20, rfl, k22, hg⟩ := zh_dr hf
        replace hf := hg
        refine ze_getI X 5 3 21 (RX5, TX5, 4) rfl hW k22 rfl (by decide) kfl_X5_21 dX5_compareNodes_21 ?_
        refine lv_iload X.1 X.2.1 dX5_compareNodes_24 (lv_at hl 4 rfl) ?_
        refine lv_isub X.1 X.2.1 dX5_compareNodes_26 ?_
        refine lv_icmp_le (tgt := 32) X.1 X.2.1 dX5_compareNodes_27 (by decide) (fun c23 => ?_) (fun c23 => ?_)
        · replace hf := zif_pos c23 hf
          refine lv_iconst (v := 0) X.1 X.2.1 dX5_compareNodes_32 (by decide) ?_
          refine lv_istore (lv' := [(5, .int (0 : Int32)), (0, .ref (B + a0)), (1, .int x1), (2, .ref (B + a20)), (3, .int x3), (4, .int x4)]) X.1 X.2.1 dX5_compareNodes_33 hl (by decide) rfl (fun ls hk => ?_)
          replace hl := hk
          exact w_X5_compareNodes_35 X hr hlk hK0 hf hW (lv_sub hl [1, 2, 3, 4, 5, 0] rfl)
        · replace hf := zif_neg c23 hf
          refine lv_iconst (v := 1) X.1 X.2.1 dX5_compareNodes_30 (by decide) ?_
          obtain rfl := zi1 hf
          exact ze_retI X hr hlk hW (Nat.le_refl _) (Nat.le_refl _) dX5_compareNodes_31
end

/-! LeastPatterns$Shaper.precedes(LLeastPatterns$Term;II)Z -/
def f_X3_precedes (F : Nat) (K : zK) (I : zI) (R : zR) (x0 : Option Nat) (x1 : Int32) (x2 : Int32) : Option (Int32) :=
  zbd (zdr K x0 15) fun a1 =>
  zbd (f_X5_spanOf F K I R a1 x1) fun v4 =>
  zbd (f_X5_spanOf F K I R a1 x2) fun v6 =>
  if v4 = v6 then
    zbd (f_X5_compareNodes F K I R a1 x1 (some a1) x2 v4) fun v9 =>
    if (0 : Int32) ≤ v9 then
      some (0 : Int32)
    else
      some (1 : Int32)
  else
    if v6 ≤ v4 then
      some (0 : Int32)
    else
      some (1 : Int32)
section
variable {p : Program} {l : Launch} {e : Env} {s : State} {m : MethodId} {args : Array Value} {below : List Frame} {meth : Method} {c : Code} {D : zD} {B n n0 n' fd ld : Nat} {K K0 K' : zK} {I I' : zI} {R R' : zR} {H : Heap} {locs : List Loc} {ls : Array Slot} {r : Int32}
set_option maxRecDepth 100000 in
set_option maxHeartbeats 4000000 in
theorem c_X3_precedes (l : Launch) (D : zD) (B n : Nat) {F : Nat} {K : zK} {I : zI} {R : zR} {x0 : Option Nat} {x1 : Int32} {x2 : Int32} {r : Int32} (hf : f_X3_precedes F K I R x0 x1 x2 = some r) : zM l yX3_precedes cX3_precedes 5 (some .boolean) ({ frames := 2, cells := 0, slots := 0, locals := 67 } : Room) D B n K I R [zrf B x0, .int x1, .int x2] (zQi D (zOwn B K (B + n)) r B n K I R) := by
  refine ze_entry (lv0 := [(0, zrf B x0), (1, .int x1), (2, .int x2)]) (by decide) (by simp [lg_sl, zcat, zcat_i, zcat_r, zcat_l]) (by simp [lv_args, zcat, zcat_i, zcat_r, zcat_l]) (fun p e s m below meth c X hr hlk hin hW ls hl => ?_)
  unfold f_X3_precedes at hf
  refine ze_aload_n X.1 X.2.1 dX3_precedes_0 rfl (lv_at hl 0 rfl) ?_
  refine lv_iload_n X.1 X.2.1 dX3_precedes_1 rfl (lv_at hl 1 rfl) ?_
  obtain ⟨a1, rfl, k3, hg⟩ := zh_dr hf
  replace hf := hg
  obtain ⟨v4, h5, hg⟩ := zh_bd hf
  replace hf := hg
  refine ze_aftI0 (ze_runV (As := [.int x1]) (rest := []) X 5 62 (c_X5_spanOf l D B n k3 h5) vX5_spanOf kml_X3_62 hW k3 rfl rfl ⟨by decide, by decide⟩ rfl hl.1 rfl (Nat.le_of_ble_eq_true rfl) ⟨Nat.le_refl _, Nat.le_refl _⟩ dX3_precedes_2) hW (fun H locs hV => ?_)
  replace hW := hV
  refine lv_istore_n (i := 3) (lv' := [(3, .int v4), (0, .ref (B + a1)), (1, .int x1), (2, .int x2)]) X.1 X.2.1 dX3_precedes_5 rfl hl (by decide) rfl (fun ls hk => ?_)
  replace hl := hk
  refine lv_aload_n X.1 X.2.1 dX3_precedes_6 rfl (lv_at hl 1 rfl) ?_
  refine lv_iload_n X.1 X.2.1 dX3_precedes_7 rfl (lv_at hl 3 rfl) ?_
  obtain ⟨v6, h7, hg⟩ := zh_bd hf
  replace hf := hg
  refine ze_aftI0 (ze_runV (As := [.int x2]) (rest := []) X 5 62 (c_X5_spanOf l D B n k3 h7) vX5_spanOf kml_X3_62 hW k3 rfl rfl ⟨by decide, by decide⟩ rfl hl.1 rfl (Nat.le_of_ble_eq_true rfl) ⟨Nat.le_refl _, Nat.le_refl _⟩ dX3_precedes_8) hW (fun H locs hV => ?_)
  replace hW := hV
  refine lv_istore (lv' := [(4, .int v6), (3, .int v4), (0, .ref (B + a1)), (1, .int x1), (2, .int x2)]) X.1 X.2.1 dX3_precedes_11 hl (by decide) rfl (fun ls hk => ?_)
  replace hl := hk
  refine lv_iload_n X.1 X.2.1 dX3_precedes_13 rfl (lv_at hl 1 rfl) ?_
  refine lv_iload X.1 X.2.1 dX3_precedes_14 (lv_at hl 0 rfl) ?_
  refine lv_icmp_eq (tgt := 33) X.1 X.2.1 dX3_precedes_16 (by decide) (fun c8 => ?_) (fun c8 => ?_)
  · replace hf := zif_pos c8 hf
    refine lv_aload_n X.1 X.2.1 dX3_precedes_33 rfl (lv_at hl 2 rfl) ?_
    refine lv_iload_n X.1 X.2.1 dX3_precedes_34 rfl (lv_at hl 3 rfl) ?_
    refine lv_aload_n X.1 X.2.1 dX3_precedes_35 rfl (lv_at hl 2 rfl) ?_
    refine lv_iload_n X.1 X.2.1 dX3_precedes_36 rfl (lv_at hl 4 rfl) ?_
    refine lv_iload_n X.1 X.2.1 dX3_precedes_37 rfl (lv_at hl 1 rfl) ?_
    obtain ⟨v9, h10, hg⟩ := zh_bd hf
    replace hf := hg
    refine ze_aftI0 (ze_runV (As := [.int x1, .ref (B + a1), .int x2, .int v4]) (rest := []) X 5 84 (c_X5_compareNodes l D B n k3 h10) vX5_compareNodes kml_X3_84 hW k3 rfl rfl ⟨by decide, by decide⟩ rfl hl.1 rfl (Nat.le_of_ble_eq_true rfl) ⟨Nat.le_refl _, Nat.le_refl _⟩ dX3_precedes_38) hW (fun H locs hV => ?_)
    replace hW := hV
    refine lv_if_ge (tgt := 48) X.1 X.2.1 dX3_precedes_41 (by decide) (fun c11 => ?_) (fun c11 => ?_)
    · replace hf := zif_pos c11 hf
      refine lv_iconst (v := 0) X.1 X.2.1 dX3_precedes_48 (by decide) ?_
      obtain rfl := zi1 hf
      exact ze_retZ X hr hlk (by decide) hW (Nat.le_refl _) (Nat.le_refl _) dX3_precedes_49
    · replace hf := zif_neg c11 hf
      refine lv_iconst (v := 1) X.1 X.2.1 dX3_precedes_44 (by decide) ?_
      refine lv_goto (tgt := 49) X.1 X.2.1 dX3_precedes_45 (by decide) ?_
      obtain rfl := zi1 hf
      exact ze_retZ X hr hlk (by decide) hW (Nat.le_refl _) (Nat.le_refl _) dX3_precedes_49
  · replace hf := zif_neg c8 hf
    refine lv_iload_n X.1 X.2.1 dX3_precedes_19 rfl (lv_at hl 1 rfl) ?_
    refine lv_iload X.1 X.2.1 dX3_precedes_20 (lv_at hl 0 rfl) ?_
    refine lv_icmp_ge (tgt := 29) X.1 X.2.1 dX3_precedes_22 (by decide) (fun c12 => ?_) (fun c12 => ?_)
    · replace hf := zif_pos c12 hf
      refine lv_iconst (v := 0) X.1 X.2.1 dX3_precedes_29 (by decide) ?_
      refine lv_goto (tgt := 49) X.1 X.2.1 dX3_precedes_30 (by decide) ?_
      obtain rfl := zi1 hf
      exact ze_retZ X hr hlk (by decide) hW (Nat.le_refl _) (Nat.le_refl _) dX3_precedes_49
    · replace hf := zif_neg c12 hf
      refine lv_iconst (v := 1) X.1 X.2.1 dX3_precedes_25 (by decide) ?_
      refine lv_goto (tgt := 49) X.1 X.2.1 dX3_precedes_26 (by decide) ?_
      obtain rfl := zi1 hf
      exact ze_retZ X hr hlk (by decide) hW (Nat.le_refl _) (Nat.le_refl _) dX3_precedes_49
end

/-! LeastPatterns$Shaper.orderArguments(LLeastPatterns$Term;I)V -/
def f_X3_orderArguments_77 (F : Nat) (K : zK) (R : zR) (a0 : Nat) (k22 : zI → Option Nat → Int32 → Int32 → Int32 → Option (zI)) (I : zI) (x1 : Option Nat) (x3 : Int32) (x4 : Int32) (x5 : Int32) (x6 : Int32) : Option (zI) :=
  zbd (some (R a0 3)) fun o1 =>
  zbd (zdr K o1 1) fun a2 =>
  zbd (zwr K I a2 x6 x3) fun I5 =>
  zbd (zdr K x1 15) fun a6 =>
  zbd (f_X5_spanOf F K I5 R a6 x3) fun v9 =>
  zbd (some (x3 + v9)) fun v11 =>
  k22 I5 (some a6) v11 x4 (x5 + (1 : Int32))
def g_X3_orderArguments_33 (F : Nat) (K : zK) (R : zR) (a0 : Nat) (k22 : zI → Option Nat → Int32 → Int32 → Int32 → Option (zI)) (kself : zI → Option Nat → Int32 → Int32 → Int32 → Int32 → Option (zI)) (I : zI) (x1 : Option Nat) (x3 : Int32) (x4 : Int32) (x5 : Int32) (x6 : Int32) : Option (zI) :=
  if x6 ≤ (0 : Int32) then
    f_X3_orderArguments_77 F K R a0 k22 I x1 x3 x4 x5 x6
  else
    zbd (some (R a0 3)) fun o13 =>
    zbd (zdr K o13 1) fun a14 =>
    zbd (zrd K I a14 (x6 - (1 : Int32))) fun v17 =>
    zbd (f_X3_precedes F K I R x1 x3 v17) fun v18 =>
    if v18 = (0 : Int32) then
      f_X3_orderArguments_77 F K R a0 k22 I x1 x3 x4 x5 x6
    else
      zbd (some (R a0 3)) fun o21 =>
      zbd (some (R a0 3)) fun o22 =>
      zbd (zdr K o22 1) fun a23 =>
      zbd (zrd K I a23 (x6 - (1 : Int32))) fun v26 =>
      zbd (zdr K o21 1) fun a27 =>
      zbd (zwr K I a27 x6 v26) fun I30 =>
      kself I30 x1 x3 x4 x5 (x6 + (-1 : Int32))
def f_X3_orderArguments_33 (F : Nat) (K : zK) (R : zR) (a0 : Nat) (k22 : zI → Option Nat → Int32 → Int32 → Int32 → Option (zI)) : Nat → zI → Option Nat → Int32 → Int32 → Int32 → Int32 → Option (zI)
  | 0, _, _, _, _, _, _ => none
  | t + 1, I, x1, x3, x4, x5, x6 => g_X3_orderArguments_33 F K R a0 k22 (f_X3_orderArguments_33 F K R a0 k22 t) I x1 x3 x4 x5 x6
def g_X3_orderArguments_22 (F : Nat) (K : zK) (R : zR) (a0 : Nat)  (kself : zI → Option Nat → Int32 → Int32 → Int32 → Option (zI)) (I : zI) (x1 : Option Nat) (x3 : Int32) (x4 : Int32) (x5 : Int32) : Option (zI) :=
  if x4 ≤ x5 then
    some I
  else
    f_X3_orderArguments_33 F K R a0 kself F I x1 x3 x4 x5 x5
def f_X3_orderArguments_22 (F : Nat) (K : zK) (R : zR) (a0 : Nat)  : Nat → zI → Option Nat → Int32 → Int32 → Int32 → Option (zI)
  | 0, _, _, _, _, _ => none
  | t + 1, I, x1, x3, x4, x5 => g_X3_orderArguments_22 F K R a0  (f_X3_orderArguments_22 F K R a0  t) I x1 x3 x4 x5
def f_X3_orderArguments (F : Nat) (K : zK) (I : zI) (R : zR) (a0 : Nat) (x1 : Option Nat) (x2 : Int32) : Option (zI) :=
  zbd (some (x2 + (1 : Int32))) fun v32 =>
  zbd (zdr K x1 15) fun a33 =>
  zbd (f_X5_argumentsOf F K I R a33 x2) fun v36 =>
  zbd (some (R a0 3)) fun o38 =>
  zbd (zdr K o38 1) fun a39 =>
  zbd (some (if (zln K a39) < v36 then (zln K a39) else v36)) fun v42 =>
  f_X3_orderArguments_22 F K R a0 F I (some a33) v32 v42 (0 : Int32)
section
variable {p : Program} {l : Launch} {e : Env} {s : State} {m : MethodId} {args : Array Value} {below : List Frame} {meth : Method} {c : Code} {D : zD} {B n n0 n' fd ld : Nat} {K K0 K' : zK} {I I' : zI} {R R' : zR} {H : Heap} {locs : List Loc} {ls : Array Slot} {r : Int32}
set_option maxRecDepth 100000 in
set_option maxHeartbeats 4000000 in
theorem w_X3_orderArguments_77 {F : Nat} {a0 : Nat} {k22 : zI → Option Nat → Int32 → Int32 → Int32 → Option (zI)} (X : zX p s m c cX3_orderArguments 7 RX3 D) (hr : meth.sig.returnType = none) (hlk : meth.locks = false) (hK0 : (K a0).1 = 13) (hk22 : ∀ (I : zI) (x1 : Option Nat) (x3 : Int32) (x4 : Int32) (x5 : Int32) (H : Heap) (locs : List Loc) (ls : Array Slot), k22 I x1 x3 x4 x5 = some I' → zS (zOwn B K (B + n)) D B n K I R s.heap H locs → lv_has ls 7 [(0, .ref (B + a0)), (1, zrf B x1), (3, .int x3), (4, .int x4), (5, .int x5)] → W p l e ({ frames := 3, cells := 0, slots := 0, locals := 91 } : Room) s m args below meth c H locs 0 0 (MQ below (zQv D (zOwn B K (B + n)) B n K I' R) args s 0 0 (zOwn B K (B + n))) (F0 m 22 ls [])) {x1 : Option Nat} {x3 : Int32} {x4 : Int32} {x5 : Int32} {x6 : Int32} (hf : f_X3_orderArguments_77 F K R a0 k22 I x1 x3 x4 x5 x6 = some I') (hW : zS (zOwn B K (B + n)) D B n K I R s.heap H locs) (hl : lv_has ls 7 [(0, .ref (B + a0)), (1, zrf B x1), (3, .int x3), (4, .int x4), (5, .int x5), (6, .int x6)]) : W p l e ({ frames := 3, cells := 0, slots := 0, locals := 91 } : Room) s m args below meth c H locs 0 0 (MQ below (zQv D (zOwn B K (B + n)) B n K I' R) args s 0 0 (zOwn B K (B + n))) (F0 m 77 ls []) := by
  unfold f_X3_orderArguments_77 at hf
  refine lv_aload_n X.1 X.2.1 dX3_orderArguments_77 rfl (lv_at hl 0 rfl) ?_
  refine ze_gtR X 3 3 22 (RX3, TX3, 5) rfl hf hW hK0 rfl (by decide) kfl_X3_22 dX3_orderArguments_78 (fun o1 hg => ?_)
  replace hf := hg
  refine lv_iload X.1 X.2.1 dX3_orderArguments_81 (lv_at hl 5 rfl) ?_
  refine lv_iload_n X.1 X.2.1 dX3_orderArguments_83 rfl (lv_at hl 2 rfl) ?_
  obtain ⟨a2, rfl, k4, hg⟩ := zh_dr hf
  replace hf := hg
  refine ze_iast X hf hW k4 dX3_orderArguments_84 (fun I5 H locs hg hV => ?_)
  replace hf := hg
  replace hW := hV
  refine lv_iload_n X.1 X.2.1 dX3_orderArguments_85 rfl (lv_at hl 2 rfl) ?_
  refine ze_aload_n X.1 X.2.1 dX3_orderArguments_86 rfl (lv_at hl 1 rfl) ?_
  refine lv_iload_n X.1 X.2.1 dX3_orderArguments_87 rfl (lv_at hl 2 rfl) ?_
  obtain ⟨a6, rfl, k8, hg⟩ := zh_dr hf
  replace hf := hg
  obtain ⟨v9, h10, hg⟩ := zh_bd hf
  replace hf := hg
  refine ze_aftI0 (ze_runV (As := [.int x3]) (rest := [.int x3]) X 5 62 (c_X5_spanOf l D B n k8 h10) vX5_spanOf kml_X3_62 hW k8 rfl rfl ⟨by decide, by decide⟩ rfl hl.1 rfl (Nat.le_of_ble_eq_true rfl) ⟨Nat.le_refl _, Nat.le_refl _⟩ dX3_orderArguments_88) hW (fun H locs hV => ?_)
  replace hW := hV
  refine lv_iadd X.1 X.2.1 dX3_orderArguments_91 ?_
  refine ze_nm hf (fun v11 hg => ?_)
  replace hf := hg
  refine lv_istore_n (i := 3) (lv' := [(3, .int v11), (0, .ref (B + a0)), (1, .ref (B + a6)), (4, .int x4), (5, .int x5), (6, .int x6)]) X.1 X.2.1 dX3_orderArguments_92 rfl hl (by decide) rfl (fun ls hk => ?_)
  replace hl := hk
  refine ze_iinc (lv' := [(5, .int (x5 + (1 : Int32))), (3, .int v11), (0, .ref (B + a0)), (1, .ref (B + a6)), (4, .int x4), (6, .int x6)]) (d := 1) X.1 X.2.1 dX3_orderArguments_93 hl (k := 4) rfl (by decide) (by decide) rfl (fun ls hk => ?_)
  replace hl := hk
  refine lv_goto (tgt := 22) X.1 X.2.1 dX3_orderArguments_96 (by decide) ?_
  exact hk22 _ _ _ _ _ _ _ _ hf hW (lv_sub hl [2, 3, 1, 4, 0] rfl)
set_option maxRecDepth 100000 in
set_option maxHeartbeats 4000000 in
theorem wg_X3_orderArguments_33 {F : Nat} {a0 : Nat} {k22 : zI → Option Nat → Int32 → Int32 → Int32 → Option (zI)} (X : zX p s m c cX3_orderArguments 7 RX3 D) (hr : meth.sig.returnType = none) (hlk : meth.locks = false) (hK0 : (K a0).1 = 13) (hk22 : ∀ (I : zI) (x1 : Option Nat) (x3 : Int32) (x4 : Int32) (x5 : Int32) (H : Heap) (locs : List Loc) (ls : Array Slot), k22 I x1 x3 x4 x5 = some I' → zS (zOwn B K (B + n)) D B n K I R s.heap H locs → lv_has ls 7 [(0, .ref (B + a0)), (1, zrf B x1), (3, .int x3), (4, .int x4), (5, .int x5)] → W p l e ({ frames := 3, cells := 0, slots := 0, locals := 91 } : Room) s m args below meth c H locs 0 0 (MQ below (zQv D (zOwn B K (B + n)) B n K I' R) args s 0 0 (zOwn B K (B + n))) (F0 m 22 ls [])) {kself : zI → Option Nat → Int32 → Int32 → Int32 → Int32 → Option (zI)} (hkself : ∀ (I : zI) (x1 : Option Nat) (x3 : Int32) (x4 : Int32) (x5 : Int32) (x6 : Int32) (H : Heap) (locs : List Loc) (ls : Array Slot), kself I x1 x3 x4 x5 x6 = some I' → zS (zOwn B K (B + n)) D B n K I R s.heap H locs → lv_has ls 7 [(0, .ref (B + a0)), (1, zrf B x1), (3, .int x3), (4, .int x4), (5, .int x5), (6, .int x6)] → W p l e ({ frames := 3, cells := 0, slots := 0, locals := 91 } : Room) s m args below meth c H locs 0 0 (MQ below (zQv D (zOwn B K (B + n)) B n K I' R) args s 0 0 (zOwn B K (B + n))) (F0 m 33 ls [])) {x1 : Option Nat} {x3 : Int32} {x4 : Int32} {x5 : Int32} {x6 : Int32} (hf : g_X3_orderArguments_33 F K R a0 k22 kself I x1 x3 x4 x5 x6 = some I') (hW : zS (zOwn B K (B + n)) D B n K I R s.heap H locs) (hl : lv_has ls 7 [(0, .ref (B + a0)), (1, zrf B x1), (3, .int x3), (4, .int x4), (5, .int x5), (6, .int x6)]) : W p l e ({ frames := 3, cells := 0, slots := 0, locals := 91 } : Room) s m args below meth c H locs 0 0 (MQ below (zQv D (zOwn B K (B + n)) B n K I' R) args s 0 0 (zOwn B K (B + n))) (F0 m 33 ls []) := by
  unfold g_X3_orderArguments_33 at hf
  refine lv_iload X.1 X.2.1 dX3_orderArguments_33 (lv_at hl 5 rfl) ?_
  refine lv_if_le (tgt := 77) X.1 X.2.1 dX3_orderArguments_35 (by decide) (fun c12 => ?_) (fun c12 => ?_)
  · replace hf := zif_pos c12 hf
    exact w_X3_orderArguments_77 X hr hlk hK0 hk22 hf hW hl
  · replace hf := zif_neg c12 hf
    refine ze_aload_n X.1 X.2.1 dX3_orderArguments_38 rfl (lv_at hl 1 rfl) ?_
    refine lv_iload_n X.1 X.2.1 dX3_orderArguments_39 rfl (lv_at hl 2 rfl) ?_
    refine lv_aload_n X.1 X.2.1 dX3_orderArguments_40 rfl (lv_at hl 0 rfl) ?_
    refine ze_gtR X 3 3 22 (RX3, TX3, 5) rfl hf hW hK0 rfl (by decide) kfl_X3_22 dX3_orderArguments_41 (fun o13 hg => ?_)
    replace hf := hg
    refine lv_iload X.1 X.2.1 dX3_orderArguments_44 (lv_at hl 5 rfl) ?_
    refine lv_iconst (v := 1) X.1 X.2.1 dX3_orderArguments_46 (by decide) ?_
    refine lv_isub X.1 X.2.1 dX3_orderArguments_47 ?_
    obtain ⟨a14, rfl, k16, hg⟩ := zh_dr hf
    replace hf := hg
    refine ze_iald X hf hW k16 dX3_orderArguments_48 (fun v17 hg => ?_)
    replace hf := hg
    obtain ⟨v18, h19, hg⟩ := zh_bd hf
    replace hf := hg
    refine ze_aftI0 (ze_runS (As := [zrf B x1, .int x3, .int v17]) (rest := []) X 81 (c_X3_precedes l D B n h19) vX3_precedes kml_X3_81 hW ⟨by decide, by decide⟩ rfl hl.1 rfl (Nat.le_of_ble_eq_true rfl) ⟨Nat.le_refl _, Nat.le_refl _⟩ dX3_orderArguments_49) hW (fun H locs hV => ?_)
    replace hW := hV
    refine lv_if_eq (tgt := 77) X.1 X.2.1 dX3_orderArguments_52 (by decide) (fun c20 => ?_) (fun c20 => ?_)
    · replace hf := zif_pos c20 hf
      exact w_X3_orderArguments_77 X hr hlk hK0 hk22 hf hW hl
    · replace hf := zif_neg c20 hf
      refine lv_aload_n X.1 X.2.1 dX3_orderArguments_55 rfl (lv_at hl 0 rfl) ?_
      refine ze_gtR X 3 3 22 (RX3, TX3, 5) rfl hf hW hK0 rfl (by decide) kfl_X3_22 dX3_orderArguments_56 (fun o21 hg => ?_)
      replace hf := hg
      refine lv_iload X.1 X.2.1 dX3_orderArguments_59 (lv_at hl 5 rfl) ?_
      refine lv_aload_n X.1 X.2.1 dX3_orderArguments_61 rfl (lv_at hl 0 rfl) ?_
      refine ze_gtR X 3 3 22 (RX3, TX3, 5) rfl hf hW hK0 rfl (by decide) kfl_X3_22 dX3_orderArguments_62 (fun o22 hg => ?_)
      replace hf := hg
      refine lv_iload X.1 X.2.1 dX3_orderArguments_65 (lv_at hl 5 rfl) ?_
      refine lv_iconst (v := 1) X.1 X.2.1 dX3_orderArguments_67 (by decide) ?_
      refine lv_isub X.1 X.2.1 dX3_orderArguments_68 ?_
      obtain ⟨a23, rfl, k25, hg⟩ := zh_dr hf
      replace hf := hg
      refine ze_iald X hf hW k25 dX3_orderArguments_69 (fun v26 hg => ?_)
      replace hf := hg
      obtain ⟨a27, rfl, k29, hg⟩ := zh_dr hf
      replace hf := hg
      refine ze_iast X hf hW k29 dX3_orderArguments_70 (fun I30 H locs hg hV => ?_)
      replace hf := hg
      replace hW := hV
      refine ze_iinc (lv' := [(6, .int (x6 + (-1 : Int32))), (0, .ref (B + a0)), (1, zrf B x1), (3, .int x3), (4, .int x4), (5, .int x5)]) (d := -1) X.1 X.2.1 dX3_orderArguments_71 hl (k := 5) rfl (by decide) (by decide) rfl (fun ls hk => ?_)
      replace hl := hk
      refine lv_goto (tgt := 33) X.1 X.2.1 dX3_orderArguments_74 (by decide) ?_
      exact hkself _ _ _ _ _ _ _ _ _ hf hW (lv_sub hl [1, 2, 3, 4, 5, 0] rfl)
set_option maxRecDepth 100000 in
set_option maxHeartbeats 4000000 in
theorem w_X3_orderArguments_33 {F : Nat} {a0 : Nat} {k22 : zI → Option Nat → Int32 → Int32 → Int32 → Option (zI)} (X : zX p s m c cX3_orderArguments 7 RX3 D) (hr : meth.sig.returnType = none) (hlk : meth.locks = false) (hK0 : (K a0).1 = 13) (hk22 : ∀ (I : zI) (x1 : Option Nat) (x3 : Int32) (x4 : Int32) (x5 : Int32) (H : Heap) (locs : List Loc) (ls : Array Slot), k22 I x1 x3 x4 x5 = some I' → zS (zOwn B K (B + n)) D B n K I R s.heap H locs → lv_has ls 7 [(0, .ref (B + a0)), (1, zrf B x1), (3, .int x3), (4, .int x4), (5, .int x5)] → W p l e ({ frames := 3, cells := 0, slots := 0, locals := 91 } : Room) s m args below meth c H locs 0 0 (MQ below (zQv D (zOwn B K (B + n)) B n K I' R) args s 0 0 (zOwn B K (B + n))) (F0 m 22 ls [])) {t : Nat} {x1 : Option Nat} {x3 : Int32} {x4 : Int32} {x5 : Int32} {x6 : Int32} (hf : f_X3_orderArguments_33 F K R a0 k22 t I x1 x3 x4 x5 x6 = some I') (hW : zS (zOwn B K (B + n)) D B n K I R s.heap H locs) (hl : lv_has ls 7 [(0, .ref (B + a0)), (1, zrf B x1), (3, .int x3), (4, .int x4), (5, .int x5), (6, .int x6)]) : W p l e ({ frames := 3, cells := 0, slots := 0, locals := 91 } : Room) s m args below meth c H locs 0 0 (MQ below (zQv D (zOwn B K (B + n)) B n K I' R) args s 0 0 (zOwn B K (B + n))) (F0 m 33 ls []) := by
  have key : ∀ t : Nat, ∀ (I : zI) (x1 : Option Nat) (x3 : Int32) (x4 : Int32) (x5 : Int32) (x6 : Int32) (H : Heap) (locs : List Loc) (ls : Array Slot), f_X3_orderArguments_33 F K R a0 k22 t I x1 x3 x4 x5 x6 = some I' → zS (zOwn B K (B + n)) D B n K I R s.heap H locs → lv_has ls 7 [(0, .ref (B + a0)), (1, zrf B x1), (3, .int x3), (4, .int x4), (5, .int x5), (6, .int x6)] → W p l e ({ frames := 3, cells := 0, slots := 0, locals := 91 } : Room) s m args below meth c H locs 0 0 (MQ below (zQv D (zOwn B K (B + n)) B n K I' R) args s 0 0 (zOwn B K (B + n))) (F0 m 33 ls []) := by
    intro t
    induction t with
    | zero =>
      intro I x1 x3 x4 x5 x6 H locs ls hf hW hl
      cases hf
    | succ t ih =>
      intro I x1 x3 x4 x5 x6 H locs ls hf hW hl
      exact wg_X3_orderArguments_33 X hr hlk hK0 hk22 ih hf hW hl
  exact key t _ _ _ _ _ _ _ _ _ hf hW hl
set_option maxRecDepth 100000 in
set_option maxHeartbeats 4000000 in
theorem wg_X3_orderArguments_22 {F : Nat} {a0 : Nat}  (X : zX p s m c cX3_orderArguments 7 RX3 D) (hr : meth.sig.returnType = none) (hlk : meth.locks = false) (hK0 : (K a0).1 = 13)  {kself : zI → Option Nat → Int32 → Int32 → Int32 → Option (zI)} (hkself : ∀ (I : zI) (x1 : Option Nat) (x3 : Int32) (x4 : Int32) (x5 : Int32) (H : Heap) (locs : List Loc) (ls : Array Slot), kself I x1 x3 x4 x5 = some I' → zS (zOwn B K (B + n)) D B n K I R s.heap H locs → lv_has ls 7 [(0, .ref (B + a0)), (1, zrf B x1), (3, .int x3), (4, .int x4), (5, .int x5)] → W p l e ({ frames := 3, cells := 0, slots := 0, locals := 91 } : Room) s m args below meth c H locs 0 0 (MQ below (zQv D (zOwn B K (B + n)) B n K I' R) args s 0 0 (zOwn B K (B + n))) (F0 m 22 ls [])) {x1 : Option Nat} {x3 : Int32} {x4 : Int32} {x5 : Int32} (hf : g_X3_orderArguments_22 F K R a0  kself I x1 x3 x4 x5 = some I') (hW : zS (zOwn B K (B + n)) D B n K I R s.heap H locs) (hl : lv_has ls 7 [(0, .ref (B + a0)), (1, zrf B x1), (3, .int x3), (4, .int x4), (5, .int x5)]) : W p l e ({ frames := 3, cells := 0, slots := 0, locals := 91 } : Room) s m args below meth c H locs 0 0 (MQ below (zQv D (zOwn B K (B + n)) B n K I' R) args s 0 0 (zOwn B K (B + n))) (F0 m 22 ls []) := by
  unfold g_X3_orderArguments_22 at hf
  refine lv_iload X.1 X.2.1 dX3_orderArguments_22 (lv_at hl 4 rfl) ?_
  refine lv_iload X.1 X.2.1 dX3_orderArguments_24 (lv_at hl 3 rfl) ?_
  refine lv_icmp_ge (tgt := 99) X.1 X.2.1 dX3_orderArguments_26 (by decide) (fun c31 => ?_) (fun c31 => ?_)
  · replace hf := zif_pos c31 hf
    obtain rfl := zi1 hf
    exact ze_retV X hr hlk hW (Nat.le_refl _) (Nat.le_refl _) dX3_orderArguments_99
  · replace hf := zif_neg c31 hf
    refine lv_iload X.1 X.2.1 dX3_orderArguments_29 (lv_at hl 4 rfl) ?_
    refine lv_istore (lv' := [(6, .int x5), (0, .ref (B + a0)), (1, zrf B x1), (3, .int x3), (4, .int x4), (5, .int x5)]) X.1 X.2.1 dX3_orderArguments_31 hl (by decide) rfl (fun ls hk => ?_)
    replace hl := hk
    exact w_X3_orderArguments_33 X hr hlk hK0 hkself hf hW (lv_sub hl [1, 2, 3, 4, 5, 0] rfl)
set_option maxRecDepth 100000 in
set_option maxHeartbeats 4000000 in
theorem w_X3_orderArguments_22 {F : Nat} {a0 : Nat}  (X : zX p s m c cX3_orderArguments 7 RX3 D) (hr : meth.sig.returnType = none) (hlk : meth.locks = false) (hK0 : (K a0).1 = 13)  {t : Nat} {x1 : Option Nat} {x3 : Int32} {x4 : Int32} {x5 : Int32} (hf : f_X3_orderArguments_22 F K R a0  t I x1 x3 x4 x5 = some I') (hW : zS (zOwn B K (B + n)) D B n K I R s.heap H locs) (hl : lv_has ls 7 [(0, .ref (B + a0)), (1, zrf B x1), (3, .int x3), (4, .int x4), (5, .int x5)]) : W p l e ({ frames := 3, cells := 0, slots := 0, locals := 91 } : Room) s m args below meth c H locs 0 0 (MQ below (zQv D (zOwn B K (B + n)) B n K I' R) args s 0 0 (zOwn B K (B + n))) (F0 m 22 ls []) := by
  have key : ∀ t : Nat, ∀ (I : zI) (x1 : Option Nat) (x3 : Int32) (x4 : Int32) (x5 : Int32) (H : Heap) (locs : List Loc) (ls : Array Slot), f_X3_orderArguments_22 F K R a0  t I x1 x3 x4 x5 = some I' → zS (zOwn B K (B + n)) D B n K I R s.heap H locs → lv_has ls 7 [(0, .ref (B + a0)), (1, zrf B x1), (3, .int x3), (4, .int x4), (5, .int x5)] → W p l e ({ frames := 3, cells := 0, slots := 0, locals := 91 } : Room) s m args below meth c H locs 0 0 (MQ below (zQv D (zOwn B K (B + n)) B n K I' R) args s 0 0 (zOwn B K (B + n))) (F0 m 22 ls []) := by
    intro t
    induction t with
    | zero =>
      intro I x1 x3 x4 x5 H locs ls hf hW hl
      cases hf
    | succ t ih =>
      intro I x1 x3 x4 x5 H locs ls hf hW hl
      exact wg_X3_orderArguments_22 X hr hlk hK0  ih hf hW hl
  exact key t _ _ _ _ _ _ _ _ hf hW hl
set_option maxRecDepth 100000 in
set_option maxHeartbeats 4000000 in
theorem c_X3_orderArguments (l : Launch) (D : zD) (B n : Nat) {F : Nat} {K : zK} {I : zI} {R : zR} {a0 : Nat} {x1 : Option Nat} {x2 : Int32} {I' : zI} (hK0 : (K a0).1 = 13) (hf : f_X3_orderArguments F K I R a0 x1 x2 = some I') : zM l yX3_orderArguments cX3_orderArguments 7 (none) ({ frames := 3, cells := 0, slots := 0, locals := 91 } : Room) D B n K I R [.ref (B + a0), zrf B x1, .int x2] (zQv D (zOwn B K (B + n)) B n K I' R) := by
  refine ze_entry (lv0 := [(0, .ref (B + a0)), (1, zrf B x1), (2, .int x2)]) (by decide) (by simp [lg_sl, zcat, zcat_i, zcat_r, zcat_l]) (by simp [lv_args, zcat, zcat_i, zcat_r, zcat_l]) (fun p e s m below meth c X hr hlk hin hW ls hl => ?_)
  unfold f_X3_orderArguments at hf
  refine lv_iload_n X.1 X.2.1 dX3_orderArguments_0 rfl (lv_at hl 2 rfl) ?_
  refine lv_iconst (v := 1) X.1 X.2.1 dX3_orderArguments_1 (by decide) ?_
  refine lv_iadd X.1 X.2.1 dX3_orderArguments_2 ?_
  refine ze_nm hf (fun v32 hg => ?_)
  replace hf := hg
  refine lv_istore_n (i := 3) (lv' := [(3, .int v32), (0, .ref (B + a0)), (1, zrf B x1), (2, .int x2)]) X.1 X.2.1 dX3_orderArguments_3 rfl hl (by decide) rfl (fun ls hk => ?_)
  replace hl := hk
  refine ze_aload_n X.1 X.2.1 dX3_orderArguments_4 rfl (lv_at hl 2 rfl) ?_
  refine lv_iload_n X.1 X.2.1 dX3_orderArguments_5 rfl (lv_at hl 3 rfl) ?_
  obtain ⟨a33, rfl, k35, hg⟩ := zh_dr hf
  replace hf := hg
  obtain ⟨v36, h37, hg⟩ := zh_bd hf
  replace hf := hg
  refine ze_aftI0 (ze_runV (As := [.int x2]) (rest := []) X 5 59 (c_X5_argumentsOf l D B n k35 h37) vX5_argumentsOf kml_X3_59 hW k35 rfl rfl ⟨by decide, by decide⟩ rfl hl.1 rfl (Nat.le_of_ble_eq_true rfl) ⟨Nat.le_refl _, Nat.le_refl _⟩ dX3_orderArguments_6) hW (fun H locs hV => ?_)
  replace hW := hV
  refine lv_aload_n X.1 X.2.1 dX3_orderArguments_9 rfl (lv_at hl 1 rfl) ?_
  refine ze_gtR X 3 3 22 (RX3, TX3, 5) rfl hf hW hK0 rfl (by decide) kfl_X3_22 dX3_orderArguments_10 (fun o38 hg => ?_)
  replace hf := hg
  obtain ⟨a39, rfl, k41, hg⟩ := zh_dr hf
  replace hf := hg
  refine ze_alen X 1 (by decide) hW k41 dX3_orderArguments_13 ?_
  refine ze_min X hl.1 kml_X3_75 kmath_min_1 kmath_i kmath_min_2 (by decide) (by decide) (Nat.zero_le _) (Nat.zero_le _) dX3_orderArguments_14 ?_
  refine ze_nm hf (fun v42 hg => ?_)
  replace hf := hg
  refine lv_istore (lv' := [(4, .int v42), (3, .int v32), (0, .ref (B + a0)), (1, .ref (B + a33)), (2, .int x2)]) X.1 X.2.1 dX3_orderArguments_17 hl (by decide) rfl (fun ls hk => ?_)
  replace hl := hk
  refine lv_iconst (v := 0) X.1 X.2.1 dX3_orderArguments_19 (by decide) ?_
  refine lv_istore (lv' := [(5, .int (0 : Int32)), (4, .int v42), (3, .int v32), (0, .ref (B + a0)), (1, .ref (B + a33)), (2, .int x2)]) X.1 X.2.1 dX3_orderArguments_20 hl (by decide) rfl (fun ls hk => ?_)
  replace hl := hk
  exact w_X3_orderArguments_22 X hr hlk hK0 hf hW (lv_sub hl [3, 4, 2, 1, 0] rfl)
end
