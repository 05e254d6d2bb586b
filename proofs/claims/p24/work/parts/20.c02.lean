/-! LeastPatterns$Joiner.joinAligned(III)Z -/
def f_X0_joinAligned_128 (F : Nat) (K : zK) (rec : zI → zR → Nat → Int32 → Int32 → Int32 → Option (Int32 × zI × zR)) (a0 : Nat)  (I : zI) (R : zR) (x1 : Int32) (x2 : Int32) (x3 : Int32) (x4 : Int32) (x5 : Int32) (x7 : Int32) (x8 : Int32) : Option (Int32 × zI × zR) :=
  zbd (some (R a0 2)) fun o1 =>
  zbd (zdr K o1 15) fun a2 =>
  zbd (f_X5_argument F K I R a2 x1 x7) fun v5 =>
  zbd (some (R a0 2)) fun o7 =>
  zbd (zdr K o7 15) fun a8 =>
  zbd (f_X5_argument F K I R a8 x1 (x4 - x8)) fun v11 =>
  zbd (some (R a0 3)) fun o13 =>
  zbd (zdr K o13 15) fun a14 =>
  zbd (f_X5_argument F K I R a14 x2 x7) fun v17 =>
  zbd (some (R a0 3)) fun o19 =>
  zbd (zdr K o19 15) fun a20 =>
  zbd (f_X5_argument F K I R a20 x2 (x5 - x8)) fun v23 =>
  zbd (some (R a0 4)) fun o25 =>
  zbd (some (R a0 2)) fun o26 =>
  zbd (zdr K o26 15) fun a27 =>
  zbd (f_X5_headOf F K I R a27 x1) fun v30 =>
  zbd (zdr K o25 15) fun a32 =>
  zbd2 (f_X5_append F K I R a32 v30 ((x7 + (1 : Int32)) + x8)) fun v35 I36 =>
  if v35 = (0 : Int32) then
    some ((0 : Int32), I36, R)
  else
    zbd3 (f_X0_joinRow F K rec I36 R a0 (x1 + (1 : Int32)) (x2 + (1 : Int32)) x7 (x3 + (1 : Int32))) fun v39 I40 R41 =>
    if v39 = (0 : Int32) then
      some ((0 : Int32), I40, R41)
    else
      zbd3 (f_X0_appendHole F K I40 R41 a0 (3 : Int32) (0 : Int32) v5 (v11 - v5) v17 (v23 - v17)) fun v44 I45 R46 =>
      if v44 = (0 : Int32) then
        some ((0 : Int32), I45, R46)
      else
        zbd3 (f_X0_joinRow F K rec I45 R46 a0 v11 v23 x8 (x3 + (1 : Int32))) fun v49 I50 R51 =>
        if v49 = (0 : Int32) then
          some ((0 : Int32), I50, R51)
        else
          some ((1 : Int32), I50, R51)
def g_X0_joinAligned_75 (F : Nat) (K : zK) (rec : zI → zR → Nat → Int32 → Int32 → Int32 → Option (Int32 × zI × zR)) (a0 : Nat)  (kself : zI → zR → Int32 → Int32 → Int32 → Int32 → Int32 → Int32 → Int32 → Int32 → Option (Int32 × zI × zR)) (I : zI) (R : zR) (x1 : Int32) (x2 : Int32) (x3 : Int32) (x4 : Int32) (x5 : Int32) (x6 : Int32) (x7 : Int32) (x8 : Int32) : Option (Int32 × zI × zR) :=
  if x6 ≤ (x7 + x8) then
    f_X0_joinAligned_128 F K rec a0 I R x1 x2 x3 x4 x5 x7 x8
  else
    zbd (some (R a0 2)) fun o55 =>
    zbd (zdr K o55 15) fun a56 =>
    zbd (f_X5_argument F K I R a56 x1 ((x4 - (1 : Int32)) - x8)) fun v59 =>
    zbd (some (R a0 3)) fun o61 =>
    zbd (zdr K o61 15) fun a62 =>
    zbd (f_X5_argument F K I R a62 x2 ((x5 - (1 : Int32)) - x8)) fun v65 =>
    zbd (f_X0_sameSymbol F K I R a0 v59 v65) fun v67 =>
    if v67 = (0 : Int32) then
      f_X0_joinAligned_128 F K rec a0 I R x1 x2 x3 x4 x5 x7 x8
    else
      kself I R x1 x2 x3 x4 x5 x6 x7 (x8 + (1 : Int32))
def f_X0_joinAligned_75 (F : Nat) (K : zK) (rec : zI → zR → Nat → Int32 → Int32 → Int32 → Option (Int32 × zI × zR)) (a0 : Nat)  : Nat → zI → zR → Int32 → Int32 → Int32 → Int32 → Int32 → Int32 → Int32 → Int32 → Option (Int32 × zI × zR)
  | 0, _, _, _, _, _, _, _, _, _, _ => none
  | t + 1, I, R, x1, x2, x3, x4, x5, x6, x7, x8 => g_X0_joinAligned_75 F K rec a0  (f_X0_joinAligned_75 F K rec a0  t) I R x1 x2 x3 x4 x5 x6 x7 x8
def f_X0_joinAligned_72 (F : Nat) (K : zK) (rec : zI → zR → Nat → Int32 → Int32 → Int32 → Option (Int32 × zI × zR)) (a0 : Nat)  (I : zI) (R : zR) (x1 : Int32) (x2 : Int32) (x3 : Int32) (x4 : Int32) (x5 : Int32) (x6 : Int32) (x7 : Int32) : Option (Int32 × zI × zR) :=
  f_X0_joinAligned_75 F K rec a0 F I R x1 x2 x3 x4 x5 x6 x7 (0 : Int32)
def g_X0_joinAligned_32 (F : Nat) (K : zK) (rec : zI → zR → Nat → Int32 → Int32 → Int32 → Option (Int32 × zI × zR)) (a0 : Nat)  (kself : zI → zR → Int32 → Int32 → Int32 → Int32 → Int32 → Int32 → Int32 → Option (Int32 × zI × zR)) (I : zI) (R : zR) (x1 : Int32) (x2 : Int32) (x3 : Int32) (x4 : Int32) (x5 : Int32) (x6 : Int32) (x7 : Int32) : Option (Int32 × zI × zR) :=
  if x6 ≤ x7 then
    f_X0_joinAligned_72 F K rec a0 I R x1 x2 x3 x4 x5 x6 x7
  else
    zbd (some (R a0 2)) fun o71 =>
    zbd (zdr K o71 15) fun a72 =>
    zbd (f_X5_argument F K I R a72 x1 x7) fun v75 =>
    zbd (some (R a0 3)) fun o77 =>
    zbd (zdr K o77 15) fun a78 =>
    zbd (f_X5_argument F K I R a78 x2 x7) fun v81 =>
    zbd (f_X0_sameSymbol F K I R a0 v75 v81) fun v83 =>
    if v83 = (0 : Int32) then
      f_X0_joinAligned_72 F K rec a0 I R x1 x2 x3 x4 x5 x6 x7
    else
      kself I R x1 x2 x3 x4 x5 x6 (x7 + (1 : Int32))
def f_X0_joinAligned_32 (F : Nat) (K : zK) (rec : zI → zR → Nat → Int32 → Int32 → Int32 → Option (Int32 × zI × zR)) (a0 : Nat)  : Nat → zI → zR → Int32 → Int32 → Int32 → Int32 → Int32 → Int32 → Int32 → Option (Int32 × zI × zR)
  | 0, _, _, _, _, _, _, _, _, _ => none
  | t + 1, I, R, x1, x2, x3, x4, x5, x6, x7 => g_X0_joinAligned_32 F K rec a0  (f_X0_joinAligned_32 F K rec a0  t) I R x1 x2 x3 x4 x5 x6 x7
def f_X0_joinAligned (F : Nat) (K : zK) (rec : zI → zR → Nat → Int32 → Int32 → Int32 → Option (Int32 × zI × zR)) (I : zI) (R : zR) (a0 : Nat) (x1 : Int32) (x2 : Int32) (x3 : Int32) : Option (Int32 × zI × zR) :=
  zbd (some (R a0 2)) fun o86 =>
  zbd (zdr K o86 15) fun a87 =>
  zbd (f_X5_argumentsOf F K I R a87 x1) fun v90 =>
  zbd (some (R a0 3)) fun o92 =>
  zbd (zdr K o92 15) fun a93 =>
  zbd (f_X5_argumentsOf F K I R a93 x2) fun v96 =>
  zbd (some (if v96 < v90 then v96 else v90)) fun v98 =>
  f_X0_joinAligned_32 F K rec a0 F I R x1 x2 x3 v90 v96 v98 (0 : Int32)
section
variable {p : Program} {l : Launch} {e : Env} {s : State} {m : MethodId} {args : Array Value} {below : List Frame} {meth : Method} {c : Code} {D : zD} {B n n0 n' fd ld : Nat} {K K0 K' : zK} {I I' : zI} {R R' : zR} {H : Heap} {locs : List Loc} {ls : Array Slot} {r : Int32}
set_option maxRecDepth 100000 in
set_option maxHeartbeats 4000000 in
theorem w_X0_joinAligned_128 {F : Nat} {rec : zI → zR → Nat → Int32 → Int32 → Int32 → Option (Int32 × zI × zR)} {a0 : Nat}  (X : zX p s m c cX0_joinAligned 13 RX0 D) (hr : meth.sig.returnType = some .boolean) (hlk : meth.locks = false) (hrec : ∀ {I : zI} {R : zR} {b : Nat} {q1 q2 q3 : Int32} {r : Int32} {I' : zI} {R' : zR}, (K b).1 = 10 → rec I R b q1 q2 q3 = some (r, I', R') → zM l yX0_joinNodes cX0_joinNodes 8 (some .boolean) ({ frames := fd, cells := 0, slots := 0, locals := ld } : Room) D B n K I R [.ref (B + b), .int q1, .int q2, .int q3] (zQi D (zOwn B K (B + n)) r B n K I' R')) (hK0 : (K a0).1 = 10)  {x1 : Int32} {x2 : Int32} {x3 : Int32} {x4 : Int32} {x5 : Int32} {x7 : Int32} {x8 : Int32} (hf : f_X0_joinAligned_128 F K rec a0  I R x1 x2 x3 x4 x5 x7 x8 = some (r, I', R')) (hW : zS (zOwn B K (B + n)) D B n K I R s.heap H locs) (hl : lv_has ls 13 [(0, .ref (B + a0)), (1, .int x1), (2, .int x2), (3, .int x3), (4, .int x4), (5, .int x5), (7, .int x7), (8, .int x8)]) : W p l e ({ frames := fd + 6, cells := 0, slots := 0, locals := ld + 300 } : Room) s m args below meth c H locs 0 0 (MQ below (zQi D (zOwn B K (B + n)) r B n K I' R') args s 0 0 (zOwn B K (B + n))) (F0 m 128 ls []) := by
  unfold f_X0_joinAligned_128 at hf
  refine lv_aload_n X.1 X.2.1 dX0_joinAligned_128 rfl (lv_at hl 0 rfl) ?_
  refine ze_gtR X 0 2 21 (RX0, TX0, 13) rfl hf hW hK0 rfl (by decide) kfl_X0_21 dX0_joinAligned_129 (fun o1 hg => ?_)
  replace hf := hg
  refine lv_iload_n X.1 X.2.1 dX0_joinAligned_132 rfl (lv_at hl 1 rfl) ?_
  refine lv_iload X.1 X.2.1 dX0_joinAligned_133 (lv_at hl 6 rfl) ?_
  obtain ⟨a2, rfl, k4, hg⟩ := zh_dr hf
  replace hf := hg
  obtain ⟨v5, h6, hg⟩ := zh_bd hf
  replace hf := hg
  refine ze_aftI0 (ze_runV (As := [.int x1, .int x7]) (rest := []) X 5 110 (c_X5_argument l D B n k4 h6) vX5_argument kml_X0_110 hW k4 rfl rfl ⟨by (try dsimp only) <;> omega, by (try dsimp only) <;> omega⟩ rfl hl.1 rfl (Nat.le_of_ble_eq_true rfl) ⟨Nat.le_refl _, Nat.le_refl _⟩ dX0_joinAligned_135) hW (fun H locs hV => ?_)
  replace hW := hV
  refine lv_istore (lv' := [(9, .int v5), (0, .ref (B + a0)), (1, .int x1), (2, .int x2), (3, .int x3), (4, .int x4), (5, .int x5), (7, .int x7), (8, .int x8)]) X.1 X.2.1 dX0_joinAligned_138 hl (by decide) rfl (fun ls hk => ?_)
  replace hl := hk
  refine lv_aload_n X.1 X.2.1 dX0_joinAligned_140 rfl (lv_at hl 1 rfl) ?_
  refine ze_gtR X 0 2 21 (RX0, TX0, 13) rfl hf hW hK0 rfl (by decide) kfl_X0_21 dX0_joinAligned_141 (fun o7 hg => ?_)
  replace hf := hg
  refine lv_iload_n X.1 X.2.1 dX0_joinAligned_144 rfl (lv_at hl 2 rfl) ?_
  refine lv_iload X.1 X.2.1 dX0_joinAligned_145 (lv_at hl 5 rfl) ?_
  refine lv_iload X.1 X.2.1 dX0_joinAligned_147 (lv_at hl 8 rfl) ?_
  refine lv_isub X.1 X.2.1 dX0_joinAligned_149 ?_
  obtain ⟨a8, rfl, k10, hg⟩ := zh_dr hf
  replace hf := hg
  obtain ⟨v11, h12, hg⟩ := zh_bd hf
  replace hf := hg
  refine ze_aftI0 (ze_runV (As := [.int x1, .int (x4 - x8)]) (rest := []) X 5 110 (c_X5_argument l D B n k10 h12) vX5_argument kml_X0_110 hW k10 rfl rfl ⟨by (try dsimp only) <;> omega, by (try dsimp only) <;> omega⟩ rfl hl.1 rfl (Nat.le_of_ble_eq_true rfl) ⟨Nat.le_refl _, Nat.le_refl _⟩ dX0_joinAligned_150) hW (fun H locs hV => ?_)
  replace hW := hV
  refine lv_istore (lv' := [(10, .int v11), (9, .int v5), (0, .ref (B + a0)), (1, .int x1), (2, .int x2), (3, .int x3), (4, .int x4), (5, .int x5), (7, .int x7), (8, .int x8)]) X.1 X.2.1 dX0_joinAligned_153 hl (by decide) rfl (fun ls hk => ?_)
  replace hl := hk
  refine lv_aload_n X.1 X.2.1 dX0_joinAligned_155 rfl (lv_at hl 2 rfl) ?_
  refine ze_gtR X 0 3 25 (RX0, TX0, 13) rfl hf hW hK0 rfl (by decide) kfl_X0_25 dX0_joinAligned_156 (fun o13 hg => ?_)
  replace hf := hg
  refine lv_iload_n X.1 X.2.1 dX0_joinAligned_159 rfl (lv_at hl 4 rfl) ?_
  refine lv_iload X.1 X.2.1 dX0_joinAligned_160 (lv_at hl 8 rfl) ?_
  obtain ⟨a14, rfl, k16, hg⟩ := zh_dr hf
  replace hf := hg
  obtain ⟨v17, h18, hg⟩ := zh_bd hf
  replace hf := hg
  refine ze_aftI0 (ze_runV (As := [.int x2, .int x7]) (rest := []) X 5 110 (c_X5_argument l D B n k16 h18) vX5_argument kml_X0_110 hW k16 rfl rfl ⟨by (try dsimp only) <;> omega, by (try dsimp only) <;> omega⟩ rfl hl.1 rfl (Nat.le_of_ble_eq_true rfl) ⟨Nat.le_refl _, Nat.le_refl _⟩ dX0_joinAligned_162) hW (fun H locs hV => ?_)
  replace hW := hV
  refine lv_istore (lv' := [(11, .int v17), (10, .int v11), (9, .int v5), (0, .ref (B + a0)), (1, .int x1), (2, .int x2), (3, .int x3), (4, .int x4), (5, .int x5), (7, .int x7), (8, .int x8)]) X.1 X.2.1 dX0_joinAligned_165 hl (by decide) rfl (fun ls hk => ?_)
  replace hl := hk
  refine lv_aload_n X.1 X.2.1 dX0_joinAligned_167 rfl (lv_at hl 3 rfl) ?_
  refine ze_gtR X 0 3 25 (RX0, TX0, 13) rfl hf hW hK0 rfl (by decide) kfl_X0_25 dX0_joinAligned_168 (fun o19 hg => ?_)
  replace hf := hg
  refine lv_iload_n X.1 X.2.1 dX0_joinAligned_171 rfl (lv_at hl 5 rfl) ?_
  refine lv_iload X.1 X.2.1 dX0_joinAligned_172 (lv_at hl 8 rfl) ?_
  refine lv_iload X.1 X.2.1 dX0_joinAligned_174 (lv_at hl 10 rfl) ?_
  refine lv_isub X.1 X.2.1 dX0_joinAligned_176 ?_
  obtain ⟨a20, rfl, k22, hg⟩ := zh_dr hf
  replace hf := hg
  obtain ⟨v23, h24, hg⟩ := zh_bd hf
  replace hf := hg
  refine ze_aftI0 (ze_runV (As := [.int x2, .int (x5 - x8)]) (rest := []) X 5 110 (c_X5_argument l D B n k22 h24) vX5_argument kml_X0_110 hW k22 rfl rfl ⟨by (try dsimp only) <;> omega, by (try dsimp only) <;> omega⟩ rfl hl.1 rfl (Nat.le_of_ble_eq_true rfl) ⟨Nat.le_refl _, Nat.le_refl _⟩ dX0_joinAligned_177) hW (fun H locs hV => ?_)
  replace hW := hV
  refine lv_istore (lv' := [(12, .int v23), (11, .int v17), (10, .int v11), (9, .int v5), (0, .ref (B + a0)), (1, .int x1), (2, .int x2), (3, .int x3), (4, .int x4), (5, .int x5), (7, .int x7), (8, .int x8)]) X.1 X.2.1 dX0_joinAligned_180 hl (by decide) rfl (fun ls hk => ?_)
  replace hl := hk
  refine lv_aload_n X.1 X.2.1 dX0_joinAligned_182 rfl (lv_at hl 4 rfl) ?_
  refine ze_gtR X 0 4 28 (RX0, TX0, 13) rfl hf hW hK0 rfl (by decide) kfl_X0_28 dX0_joinAligned_183 (fun o25 hg => ?_)
  replace hf := hg
  refine lv_aload_n X.1 X.2.1 dX0_joinAligned_186 rfl (lv_at hl 4 rfl) ?_
  refine ze_gtR X 0 2 21 (RX0, TX0, 13) rfl hf hW hK0 rfl (by decide) kfl_X0_21 dX0_joinAligned_187 (fun o26 hg => ?_)
  replace hf := hg
  refine lv_iload_n X.1 X.2.1 dX0_joinAligned_190 rfl (lv_at hl 5 rfl) ?_
  obtain ⟨a27, rfl, k29, hg⟩ := zh_dr hf
  replace hf := hg
  obtain ⟨v30, h31, hg⟩ := zh_bd hf
  replace hf := hg
  refine ze_aftI0 (ze_runV (As := [.int x1]) (rest := [zrf B o25]) X 5 84 (c_X5_headOf l D B n k29 h31) vX5_headOf kml_X0_84 hW k29 rfl rfl ⟨by (try dsimp only) <;> omega, by (try dsimp only) <;> omega⟩ rfl hl.1 rfl (by simp [zcat, zcat_i, zcat_r, zcat_l]) ⟨Nat.le_refl _, Nat.le_refl _⟩ dX0_joinAligned_191) hW (fun H locs hV => ?_)
  replace hW := hV
  refine lv_iload X.1 X.2.1 dX0_joinAligned_194 (lv_at hl 10 rfl) ?_
  refine lv_iconst (v := 1) X.1 X.2.1 dX0_joinAligned_196 (by decide) ?_
  refine lv_iadd X.1 X.2.1 dX0_joinAligned_197 ?_
  refine lv_iload X.1 X.2.1 dX0_joinAligned_198 (lv_at hl 11 rfl) ?_
  refine lv_iadd X.1 X.2.1 dX0_joinAligned_200 ?_
  obtain ⟨a32, rfl, k34, hg⟩ := zh_dr hf
  replace hf := hg
  obtain ⟨v35, I36, h37, hg⟩ := zh_bd2 hf
  replace hf := hg
  refine ze_aftI0 (ze_runV (As := [.int v30, .int ((x7 + (1 : Int32)) + x8)]) (rest := []) X 5 87 (c_X5_append l D B n k34 h37) vX5_append kml_X0_87 hW k34 rfl rfl ⟨by (try dsimp only) <;> omega, by (try dsimp only) <;> omega⟩ rfl hl.1 rfl (Nat.le_of_ble_eq_true rfl) ⟨Nat.le_refl _, Nat.le_refl _⟩ dX0_joinAligned_201) hW (fun H locs hV => ?_)
  replace hW := hV
  refine lv_if_eq (tgt := 268) X.1 X.2.1 dX0_joinAligned_204 (by decide) (fun c38 => ?_) (fun c38 => ?_)
  · replace hf := zif_pos c38 hf
    refine lv_iconst (v := 0) X.1 X.2.1 dX0_joinAligned_268 (by decide) ?_
    obtain ⟨rfl, rfl, rfl⟩ := zi3 hf
    exact ze_retZ X hr hlk (by decide) hW (Nat.le_refl _) (Nat.le_refl _) dX0_joinAligned_269
  · replace hf := zif_neg c38 hf
    refine lv_aload_n X.1 X.2.1 dX0_joinAligned_207 rfl (lv_at hl 4 rfl) ?_
    refine lv_iload_n X.1 X.2.1 dX0_joinAligned_208 rfl (lv_at hl 5 rfl) ?_
    refine lv_iconst (v := 1) X.1 X.2.1 dX0_joinAligned_209 (by decide) ?_
    refine lv_iadd X.1 X.2.1 dX0_joinAligned_210 ?_
    refine lv_iload_n X.1 X.2.1 dX0_joinAligned_211 rfl (lv_at hl 6 rfl) ?_
    refine lv_iconst (v := 1) X.1 X.2.1 dX0_joinAligned_212 (by decide) ?_
    refine lv_iadd X.1 X.2.1 dX0_joinAligned_213 ?_
    refine lv_iload X.1 X.2.1 dX0_joinAligned_214 (lv_at hl 10 rfl) ?_
    refine lv_iload_n X.1 X.2.1 dX0_joinAligned_216 rfl (lv_at hl 7 rfl) ?_
    refine lv_iconst (v := 1) X.1 X.2.1 dX0_joinAligned_217 (by decide) ?_
    refine lv_iadd X.1 X.2.1 dX0_joinAligned_218 ?_
    obtain ⟨v39, I40, R41, h42, hg⟩ := zh_bd3 hf
    replace hf := hg
    refine ze_aftI0 (ze_runV (As := [.int (x1 + (1 : Int32)), .int (x2 + (1 : Int32)), .int x7, .int (x3 + (1 : Int32))]) (rest := []) X 0 90 (c_X0_joinRow l D B n hrec hK0 h42) vX0_joinRow kml_X0_90 hW hK0 rfl rfl ⟨by (try dsimp only) <;> omega, by (try dsimp only) <;> omega⟩ rfl hl.1 rfl (Nat.le_of_ble_eq_true rfl) ⟨Nat.le_refl _, Nat.le_refl _⟩ dX0_joinAligned_219) hW (fun H locs hV => ?_)
    replace hW := hV
    refine lv_if_eq (tgt := 268) X.1 X.2.1 dX0_joinAligned_222 (by decide) (fun c43 => ?_) (fun c43 => ?_)
    · replace hf := zif_pos c43 hf
      refine lv_iconst (v := 0) X.1 X.2.1 dX0_joinAligned_268 (by decide) ?_
      obtain ⟨rfl, rfl, rfl⟩ := zi3 hf
      exact ze_retZ X hr hlk (by decide) hW (Nat.le_refl _) (Nat.le_refl _) dX0_joinAligned_269
    · replace hf := zif_neg c43 hf
      refine lv_aload_n X.1 X.2.1 dX0_joinAligned_225 rfl (lv_at hl 4 rfl) ?_
      refine lv_iconst (v := 3) X.1 X.2.1 dX0_joinAligned_226 (by decide) ?_
      refine lv_iconst (v := 0) X.1 X.2.1 dX0_joinAligned_227 (by decide) ?_
      refine lv_iload X.1 X.2.1 dX0_joinAligned_228 (lv_at hl 3 rfl) ?_
      refine lv_iload X.1 X.2.1 dX0_joinAligned_230 (lv_at hl 2 rfl) ?_
      refine lv_iload X.1 X.2.1 dX0_joinAligned_232 (lv_at hl 3 rfl) ?_
      refine lv_isub X.1 X.2.1 dX0_joinAligned_234 ?_
      refine lv_iload X.1 X.2.1 dX0_joinAligned_235 (lv_at hl 1 rfl) ?_
      refine lv_iload X.1 X.2.1 dX0_joinAligned_237 (lv_at hl 0 rfl) ?_
      refine lv_iload X.1 X.2.1 dX0_joinAligned_239 (lv_at hl 1 rfl) ?_
      refine lv_isub X.1 X.2.1 dX0_joinAligned_241 ?_
      obtain ⟨v44, I45, R46, h47, hg⟩ := zh_bd3 hf
      replace hf := hg
      refine ze_aftI0 (ze_runV (As := [.int (3 : Int32), .int (0 : Int32), .int v5, .int (v11 - v5), .int v17, .int (v23 - v17)]) (rest := []) X 0 97 (c_X0_appendHole l D B n hK0 h47) vX0_appendHole kml_X0_97 hW hK0 rfl rfl ⟨by (try dsimp only) <;> omega, by (try dsimp only) <;> omega⟩ rfl hl.1 rfl (Nat.le_of_ble_eq_true rfl) ⟨Nat.le_refl _, Nat.le_refl _⟩ dX0_joinAligned_242) hW (fun H locs hV => ?_)
      replace hW := hV
      refine lv_if_eq (tgt := 268) X.1 X.2.1 dX0_joinAligned_245 (by decide) (fun c48 => ?_) (fun c48 => ?_)
      · replace hf := zif_pos c48 hf
        refine lv_iconst (v := 0) X.1 X.2.1 dX0_joinAligned_268 (by decide) ?_
        obtain ⟨rfl, rfl, rfl⟩ := zi3 hf
        exact ze_retZ X hr hlk (by decide) hW (Nat.le_refl _) (Nat.le_refl _) dX0_joinAligned_269
      · replace hf := zif_neg c48 hf
        refine lv_aload_n X.1 X.2.1 dX0_joinAligned_248 rfl (lv_at hl 4 rfl) ?_
        refine lv_iload X.1 X.2.1 dX0_joinAligned_249 (lv_at hl 2 rfl) ?_
        refine lv_iload X.1 X.2.1 dX0_joinAligned_251 (lv_at hl 0 rfl) ?_
        refine lv_iload X.1 X.2.1 dX0_joinAligned_253 (lv_at hl 11 rfl) ?_
        refine lv_iload_n X.1 X.2.1 dX0_joinAligned_255 rfl (lv_at hl 7 rfl) ?_
        refine lv_iconst (v := 1) X.1 X.2.1 dX0_joinAligned_256 (by decide) ?_
        refine lv_iadd X.1 X.2.1 dX0_joinAligned_257 ?_
        obtain ⟨v49, I50, R51, h52, hg⟩ := zh_bd3 hf
        replace hf := hg
        refine ze_aftI0 (ze_runV (As := [.int v11, .int v23, .int x8, .int (x3 + (1 : Int32))]) (rest := []) X 0 90 (c_X0_joinRow l D B n hrec hK0 h52) vX0_joinRow kml_X0_90 hW hK0 rfl rfl ⟨by (try dsimp only) <;> omega, by (try dsimp only) <;> omega⟩ rfl hl.1 rfl (Nat.le_of_ble_eq_true rfl) ⟨Nat.le_refl _, Nat.le_refl _⟩ dX0_joinAligned_258) hW (fun H locs hV => ?_)
        replace hW := hV
        refine lv_if_eq (tgt := 268) X.1 X.2.1 dX0_joinAligned_261 (by decide) (fun c53 => ?_) (fun c53 => ?_)
        · replace hf := zif_pos c53 hf
          refine lv_iconst (v := 0) X.1 X.2.1 dX0_joinAligned_268 (by decide) ?_
          obtain ⟨rfl, rfl, rfl⟩ := zi3 hf
          exact ze_retZ X hr hlk (by decide) hW (Nat.le_refl _) (Nat.le_refl _) dX0_joinAligned_269
        · replace hf := zif_neg c53 hf
          refine lv_iconst (v := 1) X.1 X.2.1 dX0_joinAligned_264 (by decide) ?_
          refine lv_goto (tgt := 269) X.1 X.2.1 dX0_joinAligned_265 (by decide) ?_
          obtain ⟨rfl, rfl, rfl⟩ := zi3 hf
          exact ze_retZ X hr hlk (by decide) hW (Nat.le_refl _) (Nat.le_refl _) dX0_joinAligned_269
set_option maxRecDepth 100000 in
set_option maxHeartbeats 4000000 in
theorem wg_X0_joinAligned_75 {F : Nat} {rec : zI → zR → Nat → Int32 → Int32 → Int32 → Option (Int32 × zI × zR)} {a0 : Nat}  (X : zX p s m c cX0_joinAligned 13 RX0 D) (hr : meth.sig.returnType = some .boolean) (hlk : meth.locks = false) (hrec : ∀ {I : zI} {R : zR} {b : Nat} {q1 q2 q3 : Int32} {r : Int32} {I' : zI} {R' : zR}, (K b).1 = 10 → rec I R b q1 q2 q3 = some (r, I', R') → zM l yX0_joinNodes cX0_joinNodes 8 (some .boolean) ({ frames := fd, cells := 0, slots := 0, locals := ld } : Room) D B n K I R [.ref (B + b), .int q1, .int q2, .int q3] (zQi D (zOwn B K (B + n)) r B n K I' R')) (hK0 : (K a0).1 = 10)  {kself : zI → zR → Int32 → Int32 → Int32 → Int32 → Int32 → Int32 → Int32 → Int32 → Option (Int32 × zI × zR)} (hkself : ∀ (I : zI) (R : zR) (x1 : Int32) (x2 : Int32) (x3 : Int32) (x4 : Int32) (x5 : Int32) (x6 : Int32) (x7 : Int32) (x8 : Int32) (H : Heap) (locs : List Loc) (ls : Array Slot), kself I R x1 x2 x3 x4 x5 x6 x7 x8 = some (r, I', R') → zS (zOwn B K (B + n)) D B n K I R s.heap H locs → lv_has ls 13 [(0, .ref (B + a0)), (1, .int x1), (2, .int x2), (3, .int x3), (4, .int x4), (5, .int x5), (6, .int x6), (7, .int x7), (8, .int x8)] → W p l e ({ frames := fd + 6, cells := 0, slots := 0, locals := ld + 300 } : Room) s m args below meth c H locs 0 0 (MQ below (zQi D (zOwn B K (B + n)) r B n K I' R') args s 0 0 (zOwn B K (B + n))) (F0 m 75 ls [])) {x1 : Int32} {x2 : Int32} {x3 : Int32} {x4 : Int32} {x5 : Int32} {x6 : Int32} {x7 : Int32} {x8 : Int32} (hf : g_X0_joinAligned_75 F K rec a0  kself I R x1 x2 x3 x4 x5 x6 x7 x8 = some (r, I', R')) (hW : zS (zOwn B K (B + n)) D B n K I R s.heap H locs) (hl : lv_has ls 13 [(0, .ref (B + a0)), (1, .int x1), (2, .int x2), (3, .int x3), (4, .int x4), (5, .int x5), (6, .int x6), (7, .int x7), (8, .int x8)]) : W p l e ({ frames := fd + 6, cells := 0, slots := 0, locals := ld + 300 } : Room) s m args below meth c H locs 0 0 (MQ below (zQi D (zOwn B K (B + n)) r B n K I' R') args s 0 0 (zOwn B K (B + n))) (F0 m 75 ls []) := by
  unfold g_X0_joinAligned_75 at hf
  refine lv_iload X.1 X.2.1 dX0_joinAligned_75 (lv_at hl 7 rfl) ?_
  refine lv_iload X.1 X.2.1 dX0_joinAligned_77 (lv_at hl 8 rfl) ?_
  refine lv_iadd X.1 X.2.1 dX0_joinAligned_79 ?_
  refine lv_iload X.1 X.2.1 dX0_joinAligned_80 (lv_at hl 6 rfl) ?_
  refine lv_icmp_ge (tgt := 128) X.1 X.2.1 dX0_joinAligned_82 (by decide) (fun c54 => ?_) (fun c54 => ?_)
  · replace hf := zif_pos c54 hf
    exact w_X0_joinAligned_128 X hr hlk hrec hK0 hf hW (lv_sub hl [0, 1, 2, 3, 4, 5, 7, 8] rfl)
  · replace hf := zif_neg c54 hf
    refine lv_aload_n X.1 X.2.1 dX0_joinAligned_85 rfl (lv_at hl 0 rfl) ?_
    refine lv_aload_n X.1 X.2.1 dX0_joinAligned_86 rfl (lv_at hl 0 rfl) ?_
    refine ze_gtR X 0 2 21 (RX0, TX0, 13) rfl hf hW hK0 rfl (by decide) kfl_X0_21 dX0_joinAligned_87 (fun o55 hg => ?_)
    replace hf := hg
    refine lv_iload_n X.1 X.2.1 dX0_joinAligned_90 rfl (lv_at hl 1 rfl) ?_
    refine lv_iload X.1 X.2.1 dX0_joinAligned_91 (lv_at hl 4 rfl) ?_
    refine lv_iconst (v := 1) X.1 X.2.1 dX0_joinAligned_93 (by decide) ?_
    refine lv_isub X.1 X.2.1 dX0_joinAligned_94 ?_
    refine lv_iload X.1 X.2.1 dX0_joinAligned_95 (lv_at hl 8 rfl) ?_
    refine lv_isub X.1 X.2.1 dX0_joinAligned_97 ?_
    obtain ⟨a56, rfl, k58, hg⟩ := zh_dr hf
    replace hf := hg
    obtain ⟨v59, h60, hg⟩ := zh_bd hf
    replace hf := hg
    refine ze_aftI0 (ze_runV (As := [.int x1, .int ((x4 - (1 : Int32)) - x8)]) (rest := [.ref (B + a0)]) X 5 110 (c_X5_argument l D B n k58 h60) vX5_argument kml_X0_110 hW k58 rfl rfl ⟨by (try dsimp only) <;> omega, by (try dsimp only) <;> omega⟩ rfl hl.1 rfl (Nat.le_of_ble_eq_true rfl) ⟨Nat.le_refl _, Nat.le_refl _⟩ dX0_joinAligned_98) hW (fun H locs hV => ?_)
    replace hW := hV
    refine lv_aload_n X.1 X.2.1 dX0_joinAligned_101 rfl (lv_at hl 0 rfl) ?_
    refine ze_gtR X 0 3 25 (RX0, TX0, 13) rfl hf hW hK0 rfl (by decide) kfl_X0_25 dX0_joinAligned_102 (fun o61 hg => ?_)
    replace hf := hg
    refine lv_iload_n X.1 X.2.1 dX0_joinAligned_105 rfl (lv_at hl 2 rfl) ?_
    refine lv_iload X.1 X.2.1 dX0_joinAligned_106 (lv_at hl 5 rfl) ?_
    refine lv_iconst (v := 1) X.1 X.2.1 dX0_joinAligned_108 (by decide) ?_
    refine lv_isub X.1 X.2.1 dX0_joinAligned_109 ?_
    refine lv_iload X.1 X.2.1 dX0_joinAligned_110 (lv_at hl 8 rfl) ?_
    refine lv_isub X.1 X.2.1 dX0_joinAligned_112 ?_
    obtain ⟨a62, rfl, k64, hg⟩ := zh_dr hf
    replace hf := hg
    obtain ⟨v65, h66, hg⟩ := zh_bd hf
    replace hf := hg
    refine ze_aftI0 (ze_runV (As := [.int x2, .int ((x5 - (1 : Int32)) - x8)]) (rest := [.int v59, .ref (B + a0)]) X 5 110 (c_X5_argument l D B n k64 h66) vX5_argument kml_X0_110 hW k64 rfl rfl ⟨by (try dsimp only) <;> omega, by (try dsimp only) <;> omega⟩ rfl hl.1 rfl (Nat.le_of_ble_eq_true rfl) ⟨Nat.le_refl _, Nat.le_refl _⟩ dX0_joinAligned_113) hW (fun H locs hV => ?_)
    replace hW := hV
    obtain ⟨v67, h68, hg⟩ := zh_bd hf
    replace hf := hg
    refine ze_aftI0 (ze_runV (As := [.int v59, .int v65]) (rest := []) X 0 113 (c_X0_sameSymbol l D B n hK0 h68) vX0_sameSymbol kml_X0_113 hW hK0 rfl rfl ⟨by (try dsimp only) <;> omega, by (try dsimp only) <;> omega⟩ rfl hl.1 rfl (Nat.le_of_ble_eq_true rfl) ⟨Nat.le_refl _, Nat.le_refl _⟩ dX0_joinAligned_116) hW (fun H locs hV => ?_)
    replace hW := hV
    refine lv_if_eq (tgt := 128) X.1 X.2.1 dX0_joinAligned_119 (by decide) (fun c69 => ?_) (fun c69 => ?_)
    · replace hf := zif_pos c69 hf
      exact w_X0_joinAligned_128 X hr hlk hrec hK0 hf hW (lv_sub hl [0, 1, 2, 3, 4, 5, 7, 8] rfl)
    · replace hf := zif_neg c69 hf
      refine ze_iinc (lv' := [(8, .int (x8 + (1 : Int32))), (0, .ref (B + a0)), (1, .int x1), (2, .int x2), (3, .int x3), (4, .int x4), (5, .int x5), (6, .int x6), (7, .int x7)]) (d := 1) X.1 X.2.1 dX0_joinAligned_122 hl (k := 8) rfl (by decide) (by decide) rfl (fun ls hk => ?_)
      replace hl := hk
      refine lv_goto (tgt := 75) X.1 X.2.1 dX0_joinAligned_125 (by decide) ?_
      exact hkself _ _ _ _ _ _ _ _ _ _ _ _ _ hf hW (lv_sub hl [1, 2, 3, 4, 5, 6, 7, 8, 0] rfl)
set_option maxRecDepth 100000 in
set_option maxHeartbeats 4000000 in
theorem w_X0_joinAligned_75 {F : Nat} {rec : zI → zR → Nat → Int32 → Int32 → Int32 → Option (Int32 × zI × zR)} {a0 : Nat}  (X : zX p s m c cX0_joinAligned 13 RX0 D) (hr : meth.sig.returnType = some .boolean) (hlk : meth.locks = false) (hrec : ∀ {I : zI} {R : zR} {b : Nat} {q1 q2 q3 : Int32} {r : Int32} {I' : zI} {R' : zR}, (K b).1 = 10 → rec I R b q1 q2 q3 = some (r, I', R') → zM l yX0_joinNodes cX0_joinNodes 8 (some .boolean) ({ frames := fd, cells := 0, slots := 0, locals := ld } : Room) D B n K I R [.ref (B + b), .int q1, .int q2, .int q3] (zQi D (zOwn B K (B + n)) r B n K I' R')) (hK0 : (K a0).1 = 10)  {t : Nat} {x1 : Int32} {x2 : Int32} {x3 : Int32} {x4 : Int32} {x5 : Int32} {x6 : Int32} {x7 : Int32} {x8 : Int32} (hf : f_X0_joinAligned_75 F K rec a0  t I R x1 x2 x3 x4 x5 x6 x7 x8 = some (r, I', R')) (hW : zS (zOwn B K (B + n)) D B n K I R s.heap H locs) (hl : lv_has ls 13 [(0, .ref (B + a0)), (1, .int x1), (2, .int x2), (3, .int x3), (4, .int x4), (5, .int x5), (6, .int x6), (7, .int x7), (8, .int x8)]) : W p l e ({ frames := fd + 6, cells := 0, slots := 0, locals := ld + 300 } : Room) s m args below meth c H locs 0 0 (MQ below (zQi D (zOwn B K (B + n)) r B n K I' R') args s 0 0 (zOwn B K (B + n))) (F0 m 75 ls []) := by
  have key : ∀ t : Nat, ∀ (I : zI) (R : zR) (x1 : Int32) (x2 : Int32) (x3 : Int32) (x4 : Int32) (x5 : Int32) (x6 : Int32) (x7 : Int32) (x8 : Int32) (H : Heap) (locs : List Loc) (ls : Array Slot), f_X0_joinAligned_75 F K rec a0  t I R x1 x2 x3 x4 x5 x6 x7 x8 = some (r, I', R') → zS (zOwn B K (B + n)) D B n K I R s.heap H locs → lv_has ls 13 [(0, .ref (B + a0)), (1, .int x1), (2, .int x2), (3, .int x3), (4, .int x4), (5, .int x5), (6, .int x6), (7, .int x7), (8, .int x8)] → W p l e ({ frames := fd + 6, cells := 0, slots := 0, locals := ld + 300 } : Room) s m args below meth c H locs 0 0 (MQ below (zQi D (zOwn B K (B + n)) r B n K I' R') args s 0 0 (zOwn B K (B + n))) (F0 m 75 ls []) := by
    intro t
    induction t with
    | zero =>
      intro I R x1 x2 x3 x4 x5 x6 x7 x8 H locs ls hf hW hl
      cases hf
    | succ t ih =>
      intro I R x1 x2 x3 x4 x5 x6 x7 x8 H locs ls hf hW hl
      exact wg_X0_joinAligned_75 X hr hlk hrec hK0  ih hf hW hl
  exact key t _ _ _ _ _ _ _ _ _ _ _ _ _ hf hW hl
set_option maxRecDepth 100000 in
set_option maxHeartbeats 4000000 in
theorem w_X0_joinAligned_72 {F : Nat} {rec : zI → zR → Nat → Int32 → Int32 → Int32 → Option (Int32 × zI × zR)} {a0 : Nat}  (X : zX p s m c cX0_joinAligned 13 RX0 D) (hr : meth.sig.returnType = some .boolean) (hlk : meth.locks = false) (hrec : ∀ {I : zI} {R : zR} {b : Nat} {q1 q2 q3 : Int32} {r : Int32} {I' : zI} {R' : zR}, (K b).1 = 10 → rec I R b q1 q2 q3 = some (r, I', R') → zM l yX0_joinNodes cX0_joinNodes 8 (some .boolean) ({ frames := fd, cells := 0, slots := 0, locals := ld } : Room) D B n K I R [.ref (B + b), .int q1, .int q2, .int q3] (zQi D (zOwn B K (B + n)) r B n K I' R')) (hK0 : (K a0).1 = 10)  {x1 : Int32} {x2 : Int32} {x3 : Int32} {x4 : Int32} {x5 : Int32} {x6 : Int32} {x7 : Int32} (hf : f_X0_joinAligned_72 F K rec a0  I R x1 x2 x3 x4 x5 x6 x7 = some (r, I', R')) (hW : zS (zOwn B K (B + n)) D B n K I R s.heap H locs) (hl : lv_has ls 13 [(0, .ref (B + a0)), (1, .int x1), (2, .int x2), (3, .int x3), (4, .int x4), (5, .int x5), (6, .int x6), (7, .int x7)]) : W p l e ({ frames := fd + 6, cells := 0, slots := 0, locals := ld + 300 } : Room) s m args below meth c H locs 0 0 (MQ below (zQi D (zOwn B K (B + n)) r B n K I' R') args s 0 0 (zOwn B K (B + n))) (F0 m 72 ls []) := by
  unfold f_X0_joinAligned_72 at hf
  refine lv_iconst (v := 0) X.1 X.2.1 dX0_joinAligned_72 (by decide) ?_
  refine lv_istore (lv' := [(8, .int (0 : Int32)), (0, .ref (B + a0)), (1, .int x1), (2, .int x2), (3, .int x3), (4, .int x4), (5, .int x5), (6, .int x6), (7, .int x7)]) X.1 X.2.1 dX0_joinAligned_73 hl (by decide) rfl (fun ls hk => ?_)
  replace hl := hk
  exact w_X0_joinAligned_75 X hr hlk hrec hK0 hf hW (lv_sub hl [1, 2, 3, 4, 5, 6, 7, 8, 0] rfl)
set_option maxRecDepth 100000 in
set_option maxHeartbeats 4000000 in
theorem wg_X0_joinAligned_32 {F : Nat} {rec : zI → zR → Nat → Int32 → Int32 → Int32 → Option (Int32 × zI × zR)} {a0 : Nat}  (X : zX p s m c cX0_joinAligned 13 RX0 D) (hr : meth.sig.returnType = some .boolean) (hlk : meth.locks = false) (hrec : ∀ {I : zI} {R : zR} {b : Nat} {q1 q2 q3 : Int32} {r : Int32} {I' : zI} {R' : zR}, (K b).1 = 10 → rec I R b q1 q2 q3 = some (r, I', R') → zM l yX0_joinNodes cX0_joinNodes 8 (some .boolean) ({ frames := fd, cells := 0, slots := 0, locals := ld } : Room) D B n K I R [.ref (B + b), .int q1, .int q2, .int q3] (zQi D (zOwn B K (B + n)) r B n K I' R')) (hK0 : (K a0).1 = 10)  {kself : zI → zR → Int32 → Int32 → Int32 → Int32 → Int32 → Int32 → Int32 → Option (Int32 × zI × zR)} (hkself : ∀ (I : zI) (R : zR) (x1 : Int32) (x2 : Int32) (x3 : Int32) (x4 : Int32) (x5 : Int32) (x6 : Int32) (x7 : Int32) (H : Heap) (locs : List Loc) (ls : Array Slot), kself I R x1 x2 x3 x4 x5 x6 x7 = some (r, I', R') → zS (zOwn B K (B + n)) D B n K I R s.heap H locs → lv_has ls 13 [(0, .ref (B + a0)), (1, .int x1), (2, .int x2), (3, .int x3), (4, .int x4), (5, .int x5), (6, .int x6), (7, .int x7)] → W p l e ({ frames := fd + 6, cells := 0, slots := 0, locals := ld + 300 } : Room) s m args below meth c H locs 0 0 (MQ below (zQi D (zOwn B K (B + n)) r B n K I' R') args s 0 0 (zOwn B K (B + n))) (F0 m 32 ls [])) {x1 : Int32} {x2 : Int32} {x3 : Int32} {x4 : Int32} {x5 : Int32} {x6 : Int32} {x7 : Int32} (hf : g_X0_joinAligned_32 F K rec a0  kself I R x1 x2 x3 x4 x5 x6 x7 = some (r, I', R')) (hW : zS (zOwn B K (B + n)) D B n K I R s.heap H locs) (hl : lv_has ls 13 [(0, .ref (B + a0)), (1, .int x1), (2, .int x2), (3, .int x3), (4, .int x4), (5, .int x5), (6, .int x6), (7, .int x7)]) : W p l e ({ frames := fd + 6, cells := 0, slots := 0, locals := ld + 300 } : Room) s m args below meth c H locs 0 0 (MQ below (zQi D (zOwn B K (B + n)) r B n K I' R') args s 0 0 (zOwn B K (B + n))) (F0 m 32 ls []) := by
  unfold g_X0_joinAligned_32 at hf
  refine lv_iload X.1 X.2.1 dX0_joinAligned_32 (lv_at hl 7 rfl) ?_
  refine lv_iload X.1 X.2.1 dX0_joinAligned_34 (lv_at hl 6 rfl) ?_
  refine lv_icmp_ge (tgt := 72) X.1 X.2.1 dX0_joinAligned_36 (by decide) (fun c70 => ?_) (fun c70 => ?_)
  · replace hf := zif_pos c70 hf
    exact w_X0_joinAligned_72 X hr hlk hrec hK0 hf hW hl
  · replace hf := zif_neg c70 hf
    refine lv_aload_n X.1 X.2.1 dX0_joinAligned_39 rfl (lv_at hl 0 rfl) ?_
    refine lv_aload_n X.1 X.2.1 dX0_joinAligned_40 rfl (lv_at hl 0 rfl) ?_
    refine ze_gtR X 0 2 21 (RX0, TX0, 13) rfl hf hW hK0 rfl (by decide) kfl_X0_21 dX0_joinAligned_41 (fun o71 hg => ?_)
    replace hf := hg
    refine lv_iload_n X.1 X.2.1 dX0_joinAligned_44 rfl (lv_at hl 1 rfl) ?_
    refine lv_iload X.1 X.2.1 dX0_joinAligned_45 (lv_at hl 7 rfl) ?_
    obtain ⟨a72, rfl, k74, hg⟩ := zh_dr hf
    replace hf := hg
    obtain ⟨v75, h76, hg⟩ := zh_bd hf
    replace hf := hg
    refine ze_aftI0 (ze_runV (As := [.int x1, .int x7]) (rest := [.ref (B + a0)]) X 5 110 (c_X5_argument l D B n k74 h76) vX5_argument kml_X0_110 hW k74 rfl rfl ⟨by (try dsimp only) <;> omega, by (try dsimp only) <;> omega⟩ rfl hl.1 rfl (Nat.le_of_ble_eq_true rfl) ⟨Nat.le_refl _, Nat.le_refl _⟩ dX0_joinAligned_47) hW (fun H locs hV => ?_)
    replace hW := hV
    refine lv_aload_n X.1 X.2.1 dX0_joinAligned_50 rfl (lv_at hl 0 rfl) ?_
    refine ze_gtR X 0 3 25 (RX0, TX0, 13) rfl hf hW hK0 rfl (by decide) kfl_X0_25 dX0_joinAligned_51 (fun o77 hg => ?_)
    replace hf := hg
    refine lv_iload_n X.1 X.2.1 dX0_joinAligned_54 rfl (lv_at hl 2 rfl) ?_
    refine lv_iload X.1 X.2.1 dX0_joinAligned_55 (lv_at hl 7 rfl) ?_
    obtain ⟨a78, rfl, k80, hg⟩ := zh_dr hf
    replace hf := hg
    obtain ⟨v81, h82, hg⟩ := zh_bd hf
    replace hf := hg
    refine ze_aftI0 (ze_runV (As := [.int x2, .int x7]) (rest := [.int v75, .ref (B + a0)]) X 5 110 (c_X5_argument l D B n k80 h82) vX5_argument kml_X0_110 hW k80 rfl rfl ⟨by (try dsimp only) <;> omega, by (try dsimp only) <;> omega⟩ rfl hl.1 rfl (Nat.le_of_ble_eq_true rfl) ⟨Nat.le_refl _, Nat.le_refl _⟩ dX0_joinAligned_57) hW (fun H locs hV => ?_)
    replace hW := hV
    obtain ⟨v83, h84, hg⟩ := zh_bd hf
    replace hf := hg
    refine ze_aftI0 (ze_runV (As := [.int v75, .int v81]) (rest := []) X 0 113 (c_X0_sameSymbol l D B n hK0 h84) vX0_sameSymbol kml_X0_113 hW hK0 rfl rfl ⟨by (try dsimp only) <;> omega, by (try dsimp only) <;> omega⟩ rfl hl.1 rfl (Nat.le_of_ble_eq_true rfl) ⟨Nat.le_refl _, Nat.le_refl _⟩ dX0_joinAligned_60) hW (fun H locs hV => ?_)
    replace hW := hV
    refine lv_if_eq (tgt := 72) X.1 X.2.1 dX0_joinAligned_63 (by decide) (fun c85 => ?_) (fun c85 => ?_)
    · replace hf := zif_pos c85 hf
      exact w_X0_joinAligned_72 X hr hlk hrec hK0 hf hW hl
    · replace hf := zif_neg c85 hf
      refine ze_iinc (lv' := [(7, .int (x7 + (1 : Int32))), (0, .ref (B + a0)), (1, .int x1), (2, .int x2), (3, .int x3), (4, .int x4), (5, .int x5), (6, .int x6)]) (d := 1) X.1 X.2.1 dX0_joinAligned_66 hl (k := 7) rfl (by decide) (by decide) rfl (fun ls hk => ?_)
      replace hl := hk
      refine lv_goto (tgt := 32) X.1 X.2.1 dX0_joinAligned_69 (by decide) ?_
      exact hkself _ _ _ _ _ _ _ _ _ _ _ _ hf hW (lv_sub hl [1, 2, 3, 4, 5, 6, 7, 0] rfl)
set_option maxRecDepth 100000 in
set_option maxHeartbeats 4000000 in
theorem w_X0_joinAligned_32 {F : Nat} {rec : zI → zR → Nat → Int32 → Int32 → Int32 → Option (Int32 × zI × zR)} {a0 : Nat}  (X : zX p s m c cX0_joinAligned 13 RX0 D) (hr : meth.sig.returnType = some .boolean) (hlk : meth.locks = false) (hrec : ∀ {I : zI} {R : zR} {b : Nat} {q1 q2 q3 : Int32} {r : Int32} {I' : zI} {R' : zR}, (K b).1 = 10 → rec I R b q1 q2 q3 = some (r, I', R') → zM l yX0_joinNodes cX0_joinNodes 8 (some .boolean) ({ frames := fd, cells := 0, slots := 0, locals := ld } : Room) D B n K I R [.ref (B + b), .int q1, .int q2, .int q3] (zQi D (zOwn B K (B + n)) r B n K I' R')) (hK0 : (K a0).1 = 10)  {t : Nat} {x1 : Int32} {x2 : Int32} {x3 : Int32} {x4 : Int32} {x5 : Int32} {x6 : Int32} {x7 : Int32} (hf : f_X0_joinAligned_32 F K rec a0  t I R x1 x2 x3 x4 x5 x6 x7 = some (r, I', R')) (hW : zS (zOwn B K (B + n)) D B n K I R s.heap H locs) (hl : lv_has ls 13 [(0, .ref (B + a0)), (1, .int x1), (2, .int x2), (3, .int x3), (4, .int x4), (5, .int x5), (6, .int x6), (7, .int x7)]) : W p l e ({ frames := fd + 6, cells := 0, slots := 0, locals := ld + 300 } : Room) s m args below meth c H locs 0 0 (MQ below (zQi D (zOwn B K (B + n)) r B n K I' R') args s 0 0 (zOwn B K (B + n))) (F0 m 32 ls []) := by
  have key : ∀ t : Nat, ∀ (I : zI) (R : zR) (x1 : Int32) (x2 : Int32) (x3 : Int32) (x4 : Int32) (x5 : Int32) (x6 : Int32) (x7 : Int32) (H : Heap) (locs : List Loc) (ls : Array Slot), f_X0_joinAligned_32 F K rec a0  t I R x1 x2 x3 x4 x5 x6 x7 = some (r, I', R') → zS (zOwn B K (B + n)) D B n K I R s.heap H locs → lv_has ls 13 [(0, .ref (B + a0)), (1, .int x1), (2, .int x2), (3, .int x3), (4, .int x4), (5, .int x5), (6, .int x6), (7, .int x7)] → W p l e ({ frames := fd + 6, cells := 0, slots := 0, locals := ld + 300 } : Room) s m args below meth c H locs 0 0 (MQ below (zQi D (zOwn B K (B + n)) r B n K I' R') args s 0 0 (zOwn B K (B + n))) (F0 m 32 ls []) := by
    intro t
    induction t with
    | zero =>
      intro I R x1 x2 x3 x4 x5 x6 x7 H locs ls hf hW hl
      cases hf
    | succ t ih =>
      intro I R x1 x2 x3 x4 x5 x6 x7 H locs ls hf hW hl
      exact wg_X0_joinAligned_32 X hr hlk hrec hK0  ih hf hW hl
  exact key t _ _ _ _ _ _ _ _ _ _ _ _ hf hW hl
set_option maxRecDepth 100000 in
set_option maxHeartbeats 4000000 in
theorem c_X0_joinAligned (l : Launch) (D : zD) (B n : Nat) {fd ld : Nat} {F : Nat} {K : zK} {rec : zI → zR → Nat → Int32 → Int32 → Int32 → Option (Int32 × zI × zR)} {I : zI} {R : zR} {a0 : Nat} {x1 : Int32} {x2 : Int32} {x3 : Int32} {r : Int32} {I' : zI} {R' : zR} (hrec : ∀ {I : zI} {R : zR} {b : Nat} {q1 q2 q3 : Int32} {r : Int32} {I' : zI} {R' : zR}, (K b).1 = 10 → rec I R b q1 q2 q3 = some (r, I', R') → zM l yX0_joinNodes cX0_joinNodes 8 (some .boolean) ({ frames := fd, cells := 0, slots := 0, locals := ld } : Room) D B n K I R [.ref (B + b), .int q1, .int q2, .int q3] (zQi D (zOwn B K (B + n)) r B n K I' R')) (hK0 : (K a0).1 = 10) (hf : f_X0_joinAligned F K rec I R a0 x1 x2 x3 = some (r, I', R')) : zM l yX0_joinAligned cX0_joinAligned 13 (some .boolean) ({ frames := fd + 6, cells := 0, slots := 0, locals := ld + 300 } : Room) D B n K I R [.ref (B + a0), .int x1, .int x2, .int x3] (zQi D (zOwn B K (B + n)) r B n K I' R') := by
  refine ze_entry (lv0 := [(0, .ref (B + a0)), (1, .int x1), (2, .int x2), (3, .int x3)]) (by decide) (by simp [lg_sl, zcat, zcat_i, zcat_r, zcat_l]) (by simp [lv_args, zcat, zcat_i, zcat_r, zcat_l]) (fun p e s m below meth c X hr hlk hin hW ls hl => ?_)
  unfold f_X0_joinAligned at hf
  refine lv_aload_n X.1 X.2.1 dX0_joinAligned_0 rfl (lv_at hl 0 rfl) ?_
  refine ze_gtR X 0 2 21 (RX0, TX0, 13) rfl hf hW hK0 rfl (by decide) kfl_X0_21 dX0_joinAligned_1 (fun o86 hg => ?_)
  replace hf := hg
  refine lv_iload_n X.1 X.2.1 dX0_joinAligned_4 rfl (lv_at hl 1 rfl) ?_
  obtain ⟨a87, rfl, k89, hg⟩ := zh_dr hf
  replace hf := hg
  obtain ⟨v90, h91, hg⟩ := zh_bd hf
  replace hf := hg
  refine ze_aftI0 (ze_runV (As := [.int x1]) (rest := []) X 5 81 (c_X5_argumentsOf l D B n k89 h91) vX5_argumentsOf kml_X0_81 hW k89 rfl rfl ⟨by (try dsimp only) <;> omega, by (try dsimp only) <;> omega⟩ rfl hl.1 rfl (Nat.le_of_ble_eq_true rfl) ⟨Nat.le_refl _, Nat.le_refl _⟩ dX0_joinAligned_5) hW (fun H locs hV => ?_)
  replace hW := hV
  refine lv_istore (lv' := [(4, .int v90), (0, .ref (B + a0)), (1, .int x1), (2, .int x2), (3, .int x3)]) X.1 X.2.1 dX0_joinAligned_8 hl (by decide) rfl (fun ls hk => ?_)
  replace hl := hk
  refine lv_aload_n X.1 X.2.1 dX0_joinAligned_10 rfl (lv_at hl 1 rfl) ?_
  refine ze_gtR X 0 3 25 (RX0, TX0, 13) rfl hf hW hK0 rfl (by decide) kfl_X0_25 dX0_joinAligned_11 (fun o92 hg => ?_)
  replace hf := hg
  refine lv_iload_n X.1 X.2.1 dX0_joinAligned_14 rfl (lv_at hl 3 rfl) ?_
  obtain ⟨a93, rfl, k95, hg⟩ := zh_dr hf
  replace hf := hg
  obtain ⟨v96, h97, hg⟩ := zh_bd hf
  replace hf := hg
  refine ze_aftI0 (ze_runV (As := [.int x2]) (rest := []) X 5 81 (c_X5_argumentsOf l D B n k95 h97) vX5_argumentsOf kml_X0_81 hW k95 rfl rfl ⟨by (try dsimp only) <;> omega, by (try dsimp only) <;> omega⟩ rfl hl.1 rfl (Nat.le_of_ble_eq_true rfl) ⟨Nat.le_refl _, Nat.le_refl _⟩ dX0_joinAligned_15) hW (fun H locs hV => ?_)
  replace hW := hV
  refine lv_istore (lv' := [(5, .int v96), (4, .int v90), (0, .ref (B + a0)), (1, .int x1), (2, .int x2), (3, .int x3)]) X.1 X.2.1 dX0_joinAligned_18 hl (by decide) rfl (fun ls hk => ?_)
  replace hl := hk
  refine lv_iload X.1 X.2.1 dX0_joinAligned_20 (lv_at hl 1 rfl) ?_
  refine lv_iload X.1 X.2.1 dX0_joinAligned_22 (lv_at hl 0 rfl) ?_
  refine ze_min X hl.1 kml_X0_104 kmath_min_1 kmath_i kmath_min_2 (by (try dsimp only) <;> omega) (by (try simp [Value.category]) <;> omega) (Nat.zero_le _) (Nat.zero_le _) dX0_joinAligned_24 ?_
  refine ze_nm hf (fun v98 hg => ?_)
  replace hf := hg
  refine lv_istore (lv' := [(6, .int v98), (5, .int v96), (4, .int v90), (0, .ref (B + a0)), (1, .int x1), (2, .int x2), (3, .int x3)]) X.1 X.2.1 dX0_joinAligned_27 hl (by decide) rfl (fun ls hk => ?_)
  replace hl := hk
  refine lv_iconst (v := 0) X.1 X.2.1 dX0_joinAligned_29 (by decide) ?_
  refine lv_istore (lv' := [(7, .int (0 : Int32)), (6, .int v98), (5, .int v96), (4, .int v90), (0, .ref (B + a0)), (1, .int x1), (2, .int x2), (3, .int x3)]) X.1 X.2.1 dX0_joinAligned_30 hl (by decide) rfl (fun ls hk => ?_)
  replace hl := hk
  exact w_X0_joinAligned_32 X hr hlk hrec hK0 hf hW (lv_sub hl [4, 5, 6, 7, 3, 2, 1, 0] rfl)
end

/-! LeastPatterns$Joiner.joinNodes(III)Z -/
def f_X0_joinNodes_254 (F : Nat) (K : zK) (rec : zI → zR → Nat → Int32 → Int32 → Int32 → Option (Int32 × zI × zR)) (a0 : Nat)  (I : zI) (R : zR) (x1 : Int32) (x2 : Int32) : Option (Int32 × zI × zR) :=
  zbd (some (R a0 2)) fun o1 =>
  zbd (zdr K o1 15) fun a2 =>
  zbd (f_X5_spanOf F K I R a2 x1) fun v5 =>
  zbd (some (R a0 3)) fun o7 =>
  zbd (zdr K o7 15) fun a8 =>
  zbd (f_X5_spanOf F K I R a8 x2) fun v11 =>
  zbd3 (f_X0_appendHole F K I R a0 (1 : Int32) (0 : Int32) x1 v5 x2 v11) fun v13 I14 R15 =>
  if v13 = 0 ∨ v13 = 1 then
  some (v13, I14, R15)
  else
  none
def f_X0_joinNodes_194 (F : Nat) (K : zK) (rec : zI → zR → Nat → Int32 → Int32 → Int32 → Option (Int32 × zI × zR)) (a0 : Nat)  (I : zI) (R : zR) (x1 : Int32) (x2 : Int32) (x3 : Int32) (x4 : Int32) (x6 : Int32) (x7 : Int32) : Option (Int32 × zI × zR) :=
  if x4 = (0 : Int32) then
    f_X0_joinNodes_254 F K rec a0 I R x1 x2
  else
    if (I a0 0) = (0 : Int32) then
      f_X0_joinNodes_254 F K rec a0 I R x1 x2
    else
      if x6 ≤ (0 : Int32) then
        f_X0_joinNodes_254 F K rec a0 I R x1 x2
      else
        if x7 = (0 : Int32) then
          f_X0_joinNodes_254 F K rec a0 I R x1 x2
        else
          zbd3 (f_X0_appendHole F K I R a0 (2 : Int32) x6 x1 (1 : Int32) x2 (1 : Int32)) fun v22 I23 R24 =>
          if v22 = (0 : Int32) then
            some ((0 : Int32), I23, R24)
          else
            zbd3 (f_X0_joinRow F K rec I23 R24 a0 (x1 + (1 : Int32)) (x2 + (1 : Int32)) x6 (x3 + (1 : Int32))) fun v27 I28 R29 =>
            if v27 = (0 : Int32) then
              some ((0 : Int32), I28, R29)
            else
              some ((1 : Int32), I28, R29)
def f_X0_joinNodes_186 (F : Nat) (K : zK) (rec : zI → zR → Nat → Int32 → Int32 → Int32 → Option (Int32 × zI × zR)) (a0 : Nat)  (I : zI) (R : zR) (x1 : Int32) (x2 : Int32) (x3 : Int32) : Option (Int32 × zI × zR) :=
  zbd3 (f_X0_joinAligned F K rec I R a0 x1 x2 x3) fun v32 I33 R34 =>
  if v32 = 0 ∨ v32 = 1 then
  some (v32, I33, R34)
  else
  none
def f_X0_joinNodes_99 (F : Nat) (K : zK) (rec : zI → zR → Nat → Int32 → Int32 → Int32 → Option (Int32 × zI × zR)) (a0 : Nat)  (I : zI) (R : zR) (x1 : Int32) (x2 : Int32) (x3 : Int32) (x4 : Int32) (x5 : Int32) (x6 : Int32) (s0 : Int32) : Option (Int32 × zI × zR) :=
  if x4 = (0 : Int32) then
    f_X0_joinNodes_194 F K rec a0 I R x1 x2 x3 x4 x6 s0
  else
    zbd (some (R a0 2)) fun o38 =>
    zbd (zdr K o38 15) fun a39 =>
    zbd (f_X5_headOf F K I R a39 x1) fun v42 =>
    zbd (some (R a0 3)) fun o44 =>
    zbd (zdr K o44 15) fun a45 =>
    zbd (f_X5_headOf F K I R a45 x2) fun v48 =>
    if v42 = v48 then
      if s0 = (0 : Int32) then
        if (I a0 1) = (0 : Int32) then
          if x5 = (0 : Int32) then
            f_X0_joinNodes_254 F K rec a0 I R x1 x2
          else
            f_X0_joinNodes_186 F K rec a0 I R x1 x2 x3
        else
          f_X0_joinNodes_186 F K rec a0 I R x1 x2 x3
      else
        zbd (some (R a0 4)) fun o54 =>
        zbd (some (R a0 2)) fun o55 =>
        zbd (zdr K o55 15) fun a56 =>
        zbd (f_X5_headOf F K I R a56 x1) fun v59 =>
        zbd (zdr K o54 15) fun a61 =>
        zbd2 (f_X5_append F K I R a61 v59 x6) fun v64 I65 =>
        if v64 = (0 : Int32) then
          some ((0 : Int32), I65, R)
        else
          zbd3 (f_X0_joinRow F K rec I65 R a0 (x1 + (1 : Int32)) (x2 + (1 : Int32)) x6 (x3 + (1 : Int32))) fun v68 I69 R70 =>
          if v68 = (0 : Int32) then
            some ((0 : Int32), I69, R70)
          else
            some ((1 : Int32), I69, R70)
    else
      f_X0_joinNodes_194 F K rec a0 I R x1 x2 x3 x4 x6 s0
def f_X0_joinNodes_98 (F : Nat) (K : zK) (rec : zI → zR → Nat → Int32 → Int32 → Int32 → Option (Int32 × zI × zR)) (a0 : Nat)  (I : zI) (R : zR) (x1 : Int32) (x2 : Int32) (x3 : Int32) (x4 : Int32) (x5 : Int32) (x6 : Int32) : Option (Int32 × zI × zR) :=
  f_X0_joinNodes_99 F K rec a0 I R x1 x2 x3 x4 x5 x6 (0 : Int32)
def f_X0_joinNodes_64 (F : Nat) (K : zK) (rec : zI → zR → Nat → Int32 → Int32 → Int32 → Option (Int32 × zI × zR)) (a0 : Nat)  (I : zI) (R : zR) (x1 : Int32) (x2 : Int32) (x3 : Int32) (x4 : Int32) (s0 : Int32) : Option (Int32 × zI × zR) :=
  zbd (some (R a0 2)) fun o73 =>
  zbd (zdr K o73 15) fun a74 =>
  zbd (f_X5_argumentsOf F K I R a74 x1) fun v77 =>
  zbd (some (R a0 3)) fun o79 =>
  zbd (zdr K o79 15) fun a80 =>
  zbd (f_X5_argumentsOf F K I R a80 x2) fun v83 =>
  if v77 = v83 then
    if s0 = (0 : Int32) then
      f_X0_joinNodes_99 F K rec a0 I R x1 x2 x3 x4 s0 v77 (1 : Int32)
    else
      f_X0_joinNodes_98 F K rec a0 I R x1 x2 x3 x4 s0 v77
  else
    f_X0_joinNodes_98 F K rec a0 I R x1 x2 x3 x4 s0 v77
def f_X0_joinNodes_59 (F : Nat) (K : zK) (rec : zI → zR → Nat → Int32 → Int32 → Int32 → Option (Int32 × zI × zR)) (a0 : Nat)  (I : zI) (R : zR) (x1 : Int32) (x2 : Int32) (x3 : Int32) (x4 : Int32) : Option (Int32 × zI × zR) :=
  f_X0_joinNodes_64 F K rec a0 I R x1 x2 x3 x4 (1 : Int32)
def f_X0_joinNodes_35 (F : Nat) (K : zK) (rec : zI → zR → Nat → Int32 → Int32 → Int32 → Option (Int32 × zI × zR)) (a0 : Nat)  (I : zI) (R : zR) (x1 : Int32) (x2 : Int32) (x3 : Int32) (s0 : Int32) : Option (Int32 × zI × zR) :=
  zbd (some (R a0 2)) fun o87 =>
  zbd (zdr K o87 15) fun a88 =>
  zbd (f_X5_sequencePlace F K I R a88 x1) fun v91 =>
  if (0 : Int32) ≤ v91 then
    f_X0_joinNodes_59 F K rec a0 I R x1 x2 x3 s0
  else
    zbd (some (R a0 3)) fun o94 =>
    zbd (zdr K o94 15) fun a95 =>
    zbd (f_X5_sequencePlace F K I R a95 x2) fun v98 =>
    if v98 < (0 : Int32) then
      f_X0_joinNodes_64 F K rec a0 I R x1 x2 x3 s0 (0 : Int32)
    else
      f_X0_joinNodes_59 F K rec a0 I R x1 x2 x3 s0
def f_X0_joinNodes_34 (F : Nat) (K : zK) (rec : zI → zR → Nat → Int32 → Int32 → Int32 → Option (Int32 × zI × zR)) (a0 : Nat)  (I : zI) (R : zR) (x1 : Int32) (x2 : Int32) (x3 : Int32) : Option (Int32 × zI × zR) :=
  f_X0_joinNodes_35 F K rec a0 I R x1 x2 x3 (0 : Int32)
def g_X0_joinNodes (F : Nat) (K : zK) (rec : zI → zR → Nat → Int32 → Int32 → Int32 → Option (Int32 × zI × zR)) (I : zI) (R : zR) (a0 : Nat) (x1 : Int32) (x2 : Int32) (x3 : Int32) : Option (Int32 × zI × zR) :=
  if x3 ≤ (7 : Int32) then
    zbd (some (R a0 2)) fun o102 =>
    zbd (zdr K o102 15) fun a103 =>
    zbd (f_X5_sortOf F K I R a103 x1) fun v106 =>
    if v106 = (0 : Int32) then
      zbd (some (R a0 3)) fun o109 =>
      zbd (zdr K o109 15) fun a110 =>
      zbd (f_X5_sortOf F K I R a110 x2) fun v113 =>
      if v113 = (0 : Int32) then
        f_X0_joinNodes_35 F K rec a0 I R x1 x2 x3 (1 : Int32)
      else
        f_X0_joinNodes_34 F K rec a0 I R x1 x2 x3
    else
      f_X0_joinNodes_34 F K rec a0 I R x1 x2 x3
  else
    some ((0 : Int32), I, R)
def f_X0_joinNodes (F : Nat) (K : zK) : Nat → zI → zR → Nat → Int32 → Int32 → Int32 → Option (Int32 × zI × zR)
  | 0, _, _, _, _, _, _ => none
  | d + 1, I, R, a0, x1, x2, x3 => g_X0_joinNodes F K (f_X0_joinNodes F K d) I R a0 x1 x2 x3
section
variable {p : Program} {l : Launch} {e : Env} {s : State} {m : MethodId} {args : Array Value} {below : List Frame} {meth : Method} {c : Code} {D : zD} {B n n0 n' fd ld : Nat} {K K0 K' : zK} {I I' : zI} {R R' : zR} {H : Heap} {locs : List Loc} {ls : Array Slot} {r : Int32}
set_option maxRecDepth 100000 in
set_option maxHeartbeats 4000000 in
theorem w_X0_joinNodes_254 {F : Nat} {rec : zI → zR → Nat → Int32 → Int32 → Int32 → Option (Int32 × zI × zR)} {a0 : Nat}  (X : zX p s m c cX0_joinNodes 8 RX0 D) (hr : meth.sig.returnType = some .boolean) (hlk : meth.locks = false) (hrec : ∀ {I : zI} {R : zR} {b : Nat} {q1 q2 q3 : Int32} {r : Int32} {I' : zI} {R' : zR}, (K b).1 = 10 → rec I R b q1 q2 q3 = some (r, I', R') → zM l yX0_joinNodes cX0_joinNodes 8 (some .boolean) ({ frames := fd, cells := 0, slots := 0, locals := ld } : Room) D B n K I R [.ref (B + b), .int q1, .int q2, .int q3] (zQi D (zOwn B K (B + n)) r B n K I' R')) (hK0 : (K a0).1 = 10)  {x1 : Int32} {x2 : Int32} (hf : f_X0_joinNodes_254 F K rec a0  I R x1 x2 = some (r, I', R')) (hW : zS (zOwn B K (B + n)) D B n K I R s.heap H locs) (hl : lv_has ls 8 [(0, .ref (B + a0)), (1, .int x1), (2, .int x2)]) : W p l e ({ frames := fd + 8, cells := 0, slots := 0, locals := ld + 400 } : Room) s m args below meth c H locs 0 0 (MQ below (zQi D (zOwn B K (B + n)) r B n K I' R') args s 0 0 (zOwn B K (B + n))) (F0 m 254 ls []) := by
  unfold f_X0_joinNodes_254 at hf
  refine lv_aload_n X.1 X.2.1 dX0_joinNodes_254 rfl (lv_at hl 0 rfl) ?_
  refine lv_iconst (v := 1) X.1 X.2.1 dX0_joinNodes_255 (by decide) ?_
  refine lv_iconst (v := 0) X.1 X.2.1 dX0_joinNodes_256 (by decide) ?_
  refine lv_iload_n X.1 X.2.1 dX0_joinNodes_257 rfl (lv_at hl 1 rfl) ?_
  refine lv_aload_n X.1 X.2.1 dX0_joinNodes_258 rfl (lv_at hl 0 rfl) ?_
  refine ze_gtR X 0 2 21 (RX0, TX0, 13) rfl hf hW hK0 rfl (by decide) kfl_X0_21 dX0_joinNodes_259 (fun o1 hg => ?_)
  replace hf := hg
  refine lv_iload_n X.1 X.2.1 dX0_joinNodes_262 rfl (lv_at hl 1 rfl) ?_
  obtain ⟨a2, rfl, k4, hg⟩ := zh_dr hf
  replace hf := hg
  obtain ⟨v5, h6, hg⟩ := zh_bd hf
  replace hf := hg
  refine ze_aftI0 (ze_runV (As := [.int x1]) (rest := [.int x1, .int (0 : Int32), .int (1 : Int32), .ref (B + a0)]) X 5 101 (c_X5_spanOf l D B n k4 h6) vX5_spanOf kml_X0_101 hW k4 rfl rfl ⟨by (try dsimp only) <;> omega, by (try dsimp only) <;> omega⟩ rfl hl.1 rfl (Nat.le_of_ble_eq_true rfl) ⟨Nat.le_refl _, Nat.le_refl _⟩ dX0_joinNodes_263) hW (fun H locs hV => ?_)
  replace hW := hV
  refine lv_iload_n X.1 X.2.1 dX0_joinNodes_266 rfl (lv_at hl 2 rfl) ?_
  refine lv_aload_n X.1 X.2.1 dX0_joinNodes_267 rfl (lv_at hl 0 rfl) ?_
  refine ze_gtR X 0 3 25 (RX0, TX0, 13) rfl hf hW hK0 rfl (by decide) kfl_X0_25 dX0_joinNodes_268 (fun o7 hg => ?_)
  replace hf := hg
  refine lv_iload_n X.1 X.2.1 dX0_joinNodes_271 rfl (lv_at hl 2 rfl) ?_
  obtain ⟨a8, rfl, k10, hg⟩ := zh_dr hf
  replace hf := hg
  obtain ⟨v11, h12, hg⟩ := zh_bd hf
  replace hf := hg
  refine ze_aftI0 (ze_runV (As := [.int x2]) (rest := [.int x2, .int v5, .int x1, .int (0 : Int32), .int (1 : Int32), .ref (B + a0)]) X 5 101 (c_X5_spanOf l D B n k10 h12) vX5_spanOf kml_X0_101 hW k10 rfl rfl ⟨by (try dsimp only) <;> omega, by (try dsimp only) <;> omega⟩ rfl hl.1 rfl (Nat.le_of_ble_eq_true rfl) ⟨Nat.le_refl _, Nat.le_refl _⟩ dX0_joinNodes_272) hW (fun H locs hV => ?_)
  replace hW := hV
  obtain ⟨v13, I14, R15, h16, hg⟩ := zh_bd3 hf
  replace hf := hg
  refine ze_aftI0 (ze_runV (As := [.int (1 : Int32), .int (0 : Int32), .int x1, .int v5, .int x2, .int v11]) (rest := []) X 0 97 (c_X0_appendHole l D B n hK0 h16) vX0_appendHole kml_X0_97 hW hK0 rfl rfl ⟨by (try dsimp only) <;> omega, by (try dsimp only) <;> omega⟩ rfl hl.1 rfl (Nat.le_of_ble_eq_true rfl) ⟨Nat.le_refl _, Nat.le_refl _⟩ dX0_joinNodes_275) hW (fun H locs hV => ?_)
  replace hW := hV
  obtain ⟨hv17, hg⟩ := zh_if hf
  replace hf := hg
  obtain ⟨rfl, rfl, rfl⟩ := zi3 hf
  exact ze_retZ X hr hlk hv17 hW (Nat.le_refl _) (Nat.le_refl _) dX0_joinNodes_278
set_option maxRecDepth 100000 in
set_option maxHeartbeats 4000000 in
theorem w_X0_joinNodes_194 {F : Nat} {rec : zI → zR → Nat → Int32 → Int32 → Int32 → Option (Int32 × zI × zR)} {a0 : Nat}  (X : zX p s m c cX0_joinNodes 8 RX0 D) (hr : meth.sig.returnType = some .boolean) (hlk : meth.locks = false) (hrec : ∀ {I : zI} {R : zR} {b : Nat} {q1 q2 q3 : Int32} {r : Int32} {I' : zI} {R' : zR}, (K b).1 = 10 → rec I R b q1 q2 q3 = some (r, I', R') → zM l yX0_joinNodes cX0_joinNodes 8 (some .boolean) ({ frames := fd, cells := 0, slots := 0, locals := ld } : Room) D B n K I R [.ref (B + b), .int q1, .int q2, .int q3] (zQi D (zOwn B K (B + n)) r B n K I' R')) (hK0 : (K a0).1 = 10)  {x1 : Int32} {x2 : Int32} {x3 : Int32} {x4 : Int32} {x6 : Int32} {x7 : Int32} (hf : f_X0_joinNodes_194 F K rec a0  I R x1 x2 x3 x4 x6 x7 = some (r, I', R')) (hW : zS (zOwn B K (B + n)) D B n K I R s.heap H locs) (hl : lv_has ls 8 [(0, .ref (B + a0)), (1, .int x1), (2, .int x2), (3, .int x3), (4, .int x4), (6, .int x6), (7, .int x7)]) : W p l e ({ frames := fd + 8, cells := 0, slots := 0, locals := ld + 400 } : Room) s m args below meth c H locs 0 0 (MQ below (zQi D (zOwn B K (B + n)) r B n K I' R') args s 0 0 (zOwn B K (B + n))) (F0 m 194 ls []) := by
  unfold f_X0_joinNodes_194 at hf
  refine lv_iload X.1 X.2.1 dX0_joinNodes_194 (lv_at hl 4 rfl) ?_
  refine lv_if_eq (tgt := 254) X.1 X.2.1 dX0_joinNodes_196 (by decide) (fun c18 => ?_) (fun c18 => ?_)
  · replace hf := zif_pos c18 hf
    exact w_X0_joinNodes_254 X hr hlk hrec hK0 hf hW (lv_sub hl [0, 1, 2] rfl)
  · replace hf := zif_neg c18 hf
    refine lv_aload_n X.1 X.2.1 dX0_joinNodes_199 rfl (lv_at hl 0 rfl) ?_
    refine ze_getI X 0 0 9 (RX0, TX0, 13) rfl hW hK0 rfl (by decide) kfl_X0_9 dX0_joinNodes_200 ?_
    refine lv_if_eq (tgt := 254) X.1 X.2.1 dX0_joinNodes_203 (by decide) (fun c19 => ?_) (fun c19 => ?_)
    · replace hf := zif_pos c19 hf
      exact w_X0_joinNodes_254 X hr hlk hrec hK0 hf hW (lv_sub hl [0, 1, 2] rfl)
    · replace hf := zif_neg c19 hf
      refine lv_iload X.1 X.2.1 dX0_joinNodes_206 (lv_at hl 5 rfl) ?_
      refine lv_if_le (tgt := 254) X.1 X.2.1 dX0_joinNodes_208 (by decide) (fun c20 => ?_) (fun c20 => ?_)
      · replace hf := zif_pos c20 hf
        exact w_X0_joinNodes_254 X hr hlk hrec hK0 hf hW (lv_sub hl [0, 1, 2] rfl)
      · replace hf := zif_neg c20 hf
        refine lv_iload X.1 X.2.1 dX0_joinNodes_211 (lv_at hl 6 rfl) ?_
        refine lv_if_eq (tgt := 254) X.1 X.2.1 dX0_joinNodes_213 (by decide) (fun c21 => ?_) (fun c21 => ?_)
        · replace hf := zif_pos c21 hf
          exact w_X0_joinNodes_254 X hr hlk hrec hK0 hf hW (lv_sub hl [0, 1, 2] rfl)
        · replace hf := zif_neg c21 hf
          refine lv_aload_n X.1 X.2.1 dX0_joinNodes_216 rfl (lv_at hl 0 rfl) ?_
          refine lv_iconst (v := 2) X.1 X.2.1 dX0_joinNodes_217 (by decide) ?_
          refine lv_iload X.1 X.2.1 dX0_joinNodes_218 (lv_at hl 5 rfl) ?_
          refine lv_iload_n X.1 X.2.1 dX0_joinNodes_220 rfl (lv_at hl 1 rfl) ?_
          refine lv_iconst (v := 1) X.1 X.2.1 dX0_joinNodes_221 (by decide) ?_
          refine lv_iload_n X.1 X.2.1 dX0_joinNodes_222 rfl (lv_at hl 2 rfl) ?_
          refine lv_iconst (v := 1) X.1 X.2.1 dX0_joinNodes_223 (by decide) ?_
          obtain ⟨v22, I23, R24, h25, hg⟩ := zh_bd3 hf
          replace hf := hg
          refine ze_aftI0 (ze_runV (As := [.int (2 : Int32), .int x6, .int x1, .int (1 : Int32), .int x2, .int (1 : Int32)]) (rest := []) X 0 97 (c_X0_appendHole l D B n hK0 h25) vX0_appendHole kml_X0_97 hW hK0 rfl rfl ⟨by (try dsimp only) <;> omega, by (try dsimp only) <;> omega⟩ rfl hl.1 rfl (Nat.le_of_ble_eq_true rfl) ⟨Nat.le_refl _, Nat.le_refl _⟩ dX0_joinNodes_224) hW (fun H locs hV => ?_)
          replace hW := hV
          refine lv_if_eq (tgt := 252) X.1 X.2.1 dX0_joinNodes_227 (by decide) (fun c26 => ?_) (fun c26 => ?_)
          · replace hf := zif_pos c26 hf
            refine lv_iconst (v := 0) X.1 X.2.1 dX0_joinNodes_252 (by decide) ?_
            obtain ⟨rfl, rfl, rfl⟩ := zi3 hf
            exact ze_retZ X hr hlk (by decide) hW (Nat.le_refl _) (Nat.le_refl _) dX0_joinNodes_253
          · replace hf := zif_neg c26 hf
            refine lv_aload_n X.1 X.2.1 dX0_joinNodes_230 rfl (lv_at hl 0 rfl) ?_
            refine lv_iload_n X.1 X.2.1 dX0_joinNodes_231 rfl (lv_at hl 1 rfl) ?_
            refine lv_iconst (v := 1) X.1 X.2.1 dX0_joinNodes_232 (by decide) ?_
            refine lv_iadd X.1 X.2.1 dX0_joinNodes_233 ?_
            refine lv_iload_n X.1 X.2.1 dX0_joinNodes_234 rfl (lv_at hl 2 rfl) ?_
            refine lv_iconst (v := 1) X.1 X.2.1 dX0_joinNodes_235 (by decide) ?_
            refine lv_iadd X.1 X.2.1 dX0_joinNodes_236 ?_
            refine lv_iload X.1 X.2.1 dX0_joinNodes_237 (lv_at hl 5 rfl) ?_
            refine lv_iload_n X.1 X.2.1 dX0_joinNodes_239 rfl (lv_at hl 3 rfl) ?_
            refine lv_iconst (v := 1) X.1 X.2.1 dX0_joinNodes_240 (by decide) ?_
            refine lv_iadd X.1 X.2.1 dX0_joinNodes_241 ?_
            obtain ⟨v27, I28, R29, h30, hg⟩ := zh_bd3 hf
            replace hf := hg
            refine ze_aftI0 (ze_runV (As := [.int (x1 + (1 : Int32)), .int (x2 + (1 : Int32)), .int x6, .int (x3 + (1 : Int32))]) (rest := []) X 0 90 (c_X0_joinRow l D B n hrec hK0 h30) vX0_joinRow kml_X0_90 hW hK0 rfl rfl ⟨by (try dsimp only) <;> omega, by (try dsimp only) <;> omega⟩ rfl hl.1 rfl (Nat.le_of_ble_eq_true rfl) ⟨Nat.le_refl _, Nat.le_refl _⟩ dX0_joinNodes_242) hW (fun H locs hV => ?_)
            replace hW := hV
            refine lv_if_eq (tgt := 252) X.1 X.2.1 dX0_joinNodes_245 (by decide) (fun c31 => ?_) (fun c31 => ?_)
            · replace hf := zif_pos c31 hf
              refine lv_iconst (v := 0) X.1 X.2.1 dX0_joinNodes_252 (by decide) ?_
              obtain ⟨rfl, rfl, rfl⟩ := zi3 hf
              exact ze_retZ X hr hlk (by decide) hW (Nat.le_refl _) (Nat.le_refl _) dX0_joinNodes_253
            · replace hf := zif_neg c31 hf
              refine lv_iconst (v := 1) X.1 X.2.1 dX0_joinNodes_248 (by decide) ?_
              refine lv_goto (tgt := 253) X.1 X.2.1 dX0_joinNodes_249 (by decide) ?_
              obtain ⟨rfl, rfl, rfl⟩ := zi3 hf
              exact ze_retZ X hr hlk (by decide) hW (Nat.le_refl _) (Nat.le_refl _) dX0_joinNodes_253
set_option maxRecDepth 100000 in
set_option maxHeartbeats 4000000 in
theorem w_X0_joinNodes_186 {F : Nat} {rec : zI → zR → Nat → Int32 → Int32 → Int32 → Option (Int32 × zI × zR)} {a0 : Nat}  (X : zX p s m c cX0_joinNodes 8 RX0 D) (hr : meth.sig.returnType = some .boolean) (hlk : meth.locks = false) (hrec : ∀ {I : zI} {R : zR} {b : Nat} {q1 q2 q3 : Int32} {r : Int32} {I' : zI} {R' : zR}, (K b).1 = 10 → rec I R b q1 q2 q3 = some (r, I', R') → zM l yX0_joinNodes cX0_joinNodes 8 (some .boolean) ({ frames := fd, cells := 0, slots := 0, locals := ld } : Room) D B n K I R [.ref (B + b), .int q1, .int q2, .int q3] (zQi D (zOwn B K (B + n)) r B n K I' R')) (hK0 : (K a0).1 = 10)  {x1 : Int32} {x2 : Int32} {x3 : Int32} (hf : f_X0_joinNodes_186 F K rec a0  I R x1 x2 x3 = some (r, I', R')) (hW : zS (zOwn B K (B + n)) D B n K I R s.heap H locs) (hl : lv_has ls 8 [(0, .ref (B + a0)), (1, .int x1), (2, .int x2), (3, .int x3)]) : W p l e ({ frames := fd + 8, cells := 0, slots := 0, locals := ld + 400 } : Room) s m args below meth c H locs 0 0 (MQ below (zQi D (zOwn B K (B + n)) r B n K I' R') args s 0 0 (zOwn B K (B + n))) (F0 m 186 ls []) := by
  unfold f_X0_joinNodes_186 at hf
  refine lv_aload_n X.1 X.2.1 dX0_joinNodes_186 rfl (lv_at hl 0 rfl) ?_
  refine lv_iload_n X.1 X.2.1 dX0_joinNodes_187 rfl (lv_at hl 1 rfl) ?_
  refine lv_iload_n X.1 X.2.1 dX0_joinNodes_188 rfl (lv_at hl 2 rfl) ?_
  refine lv_iload_n X.1 X.2.1 dX0_joinNodes_189 rfl (lv_at hl 3 rfl) ?_
  obtain ⟨v32, I33, R34, h35, hg⟩ := zh_bd3 hf
  replace hf := hg
  refine ze_aftI0 (ze_runV (As := [.int x1, .int x2, .int x3]) (rest := []) X 0 94 (c_X0_joinAligned l D B n hrec hK0 h35) vX0_joinAligned kml_X0_94 hW hK0 rfl rfl ⟨by (try dsimp only) <;> omega, by (try dsimp only) <;> omega⟩ rfl hl.1 rfl (Nat.le_of_ble_eq_true rfl) ⟨Nat.le_refl _, Nat.le_refl _⟩ dX0_joinNodes_190) hW (fun H locs hV => ?_)
  replace hW := hV
  obtain ⟨hv36, hg⟩ := zh_if hf
  replace hf := hg
  obtain ⟨rfl, rfl, rfl⟩ := zi3 hf
  exact ze_retZ X hr hlk hv36 hW (Nat.le_refl _) (Nat.le_refl _) dX0_joinNodes_193
set_option maxRecDepth 100000 in
set_option maxHeartbeats 4000000 in
theorem w_X0_joinNodes_99 {F : Nat} {rec : zI → zR → Nat → Int32 → Int32 → Int32 → Option (Int32 × zI × zR)} {a0 : Nat}  (X : zX p s m c cX0_joinNodes 8 RX0 D) (hr : meth.sig.returnType = some .boolean) (hlk : meth.locks = false) (hrec : ∀ {I : zI} {R : zR} {b : Nat} {q1 q2 q3 : Int32} {r : Int32} {I' : zI} {R' : zR}, (K b).1 = 10 → rec I R b q1 q2 q3 = some (r, I', R') → zM l yX0_joinNodes cX0_joinNodes 8 (some .boolean) ({ frames := fd, cells := 0, slots := 0, locals := ld } : Room) D B n K I R [.ref (B + b), .int q1, .int q2, .int q3] (zQi D (zOwn B K (B + n)) r B n K I' R')) (hK0 : (K a0).1 = 10)  {x1 : Int32} {x2 : Int32} {x3 : Int32} {x4 : Int32} {x5 : Int32} {x6 : Int32} {s0 : Int32} (hf : f_X0_joinNodes_99 F K rec a0  I R x1 x2 x3 x4 x5 x6 s0 = some (r, I', R')) (hW : zS (zOwn B K (B + n)) D B n K I R s.heap H locs) (hl : lv_has ls 8 [(0, .ref (B + a0)), (1, .int x1), (2, .int x2), (3, .int x3), (4, .int x4), (5, .int x5), (6, .int x6)]) : W p l e ({ frames := fd + 8, cells := 0, slots := 0, locals := ld + 400 } : Room) s m args below meth c H locs 0 0 (MQ below (zQi D (zOwn B K (B + n)) r B n K I' R') args s 0 0 (zOwn B K (B + n))) (F0 m 99 ls [.int s0]) := by
  unfold f_X0_joinNodes_99 at hf
  refine lv_istore (lv' := [(7, .int s0), (0, .ref (B + a0)), (1, .int x1), (2, .int x2), (3, .int x3), (4, .int x4), (5, .int x5), (6, .int x6)]) X.1 X.2.1 dX0_joinNodes_99 hl (by decide) rfl (fun ls hk => ?_)
  replace hl := hk
  refine lv_iload X.1 X.2.1 dX0_joinNodes_101 (lv_at hl 5 rfl) ?_
  refine lv_if_eq (tgt := 194) X.1 X.2.1 dX0_joinNodes_103 (by decide) (fun c37 => ?_) (fun c37 => ?_)
  · replace hf := zif_pos c37 hf
    exact w_X0_joinNodes_194 X hr hlk hrec hK0 hf hW (lv_sub hl [1, 2, 3, 4, 5, 7, 0] rfl)
  · replace hf := zif_neg c37 hf
    refine lv_aload_n X.1 X.2.1 dX0_joinNodes_106 rfl (lv_at hl 1 rfl) ?_
    refine ze_gtR X 0 2 21 (RX0, TX0, 13) rfl hf hW hK0 rfl (by decide) kfl_X0_21 dX0_joinNodes_107 (fun o38 hg => ?_)
    replace hf := hg
    refine lv_iload_n X.1 X.2.1 dX0_joinNodes_110 rfl (lv_at hl 2 rfl) ?_
    obtain ⟨a39, rfl, k41, hg⟩ := zh_dr hf
    replace hf := hg
    obtain ⟨v42, h43, hg⟩ := zh_bd hf
    replace hf := hg
    refine ze_aftI0 (ze_runV (As := [.int x1]) (rest := []) X 5 84 (c_X5_headOf l D B n k41 h43) vX5_headOf kml_X0_84 hW k41 rfl rfl ⟨by (try dsimp only) <;> omega, by (try dsimp only) <;> omega⟩ rfl hl.1 rfl (Nat.le_of_ble_eq_true rfl) ⟨Nat.le_refl _, Nat.le_refl _⟩ dX0_joinNodes_111) hW (fun H locs hV => ?_)
    replace hW := hV
    refine lv_aload_n X.1 X.2.1 dX0_joinNodes_114 rfl (lv_at hl 1 rfl) ?_
    refine ze_gtR X 0 3 25 (RX0, TX0, 13) rfl hf hW hK0 rfl (by decide) kfl_X0_25 dX0_joinNodes_115 (fun o44 hg => ?_)
    replace hf := hg
    refine lv_iload_n X.1 X.2.1 dX0_joinNodes_118 rfl (lv_at hl 3 rfl) ?_
    obtain ⟨a45, rfl, k47, hg⟩ := zh_dr hf
    replace hf := hg
    obtain ⟨v48, h49, hg⟩ := zh_bd hf
    replace hf := hg
    refine ze_aftI0 (ze_runV (As := [.int x2]) (rest := [.int v42]) X 5 84 (c_X5_headOf l D B n k47 h49) vX5_headOf kml_X0_84 hW k47 rfl rfl ⟨by (try dsimp only) <;> omega, by (try dsimp only) <;> omega⟩ rfl hl.1 rfl (Nat.le_of_ble_eq_true rfl) ⟨Nat.le_refl _, Nat.le_refl _⟩ dX0_joinNodes_119) hW (fun H locs hV => ?_)
    replace hW := hV
    refine lv_icmp_ne (tgt := 194) X.1 X.2.1 dX0_joinNodes_122 (by decide) (fun c50 => ?_) (fun c50 => ?_)
    · replace hf := zif_neg c50 hf
      exact w_X0_joinNodes_194 X hr hlk hrec hK0 hf hW (lv_sub hl [1, 2, 3, 4, 5, 7, 0] rfl)
    · replace hf := zif_pos c50 hf
      refine lv_iload X.1 X.2.1 dX0_joinNodes_125 (lv_at hl 0 rfl) ?_
      refine lv_if_eq (tgt := 174) X.1 X.2.1 dX0_joinNodes_127 (by decide) (fun c51 => ?_) (fun c51 => ?_)
      · replace hf := zif_pos c51 hf
        refine lv_aload_n X.1 X.2.1 dX0_joinNodes_174 rfl (lv_at hl 1 rfl) ?_
        refine ze_getI X 0 1 15 (RX0, TX0, 13) rfl hW hK0 rfl (by decide) kfl_X0_15 dX0_joinNodes_175 ?_
        refine lv_if_ne (tgt := 186) X.1 X.2.1 dX0_joinNodes_178 (by decide) (fun c52 => ?_) (fun c52 => ?_)
        · replace hf := zif_neg c52 hf
          exact w_X0_joinNodes_186 X hr hlk hrec hK0 hf hW (lv_sub hl [1, 2, 3, 4] rfl)
        · replace hf := zif_pos c52 hf
          refine lv_iload X.1 X.2.1 dX0_joinNodes_181 (lv_at hl 6 rfl) ?_
          refine lv_if_eq (tgt := 254) X.1 X.2.1 dX0_joinNodes_183 (by decide) (fun c53 => ?_) (fun c53 => ?_)
          · replace hf := zif_pos c53 hf
            exact w_X0_joinNodes_254 X hr hlk hrec hK0 hf hW (lv_sub hl [1, 2, 3] rfl)
          · replace hf := zif_neg c53 hf
            exact w_X0_joinNodes_186 X hr hlk hrec hK0 hf hW (lv_sub hl [1, 2, 3, 4] rfl)
      · replace hf := zif_neg c51 hf
        refine lv_aload_n X.1 X.2.1 dX0_joinNodes_130 rfl (lv_at hl 1 rfl) ?_
        refine ze_gtR X 0 4 28 (RX0, TX0, 13) rfl hf hW hK0 rfl (by decide) kfl_X0_28 dX0_joinNodes_131 (fun o54 hg => ?_)
        replace hf := hg
        refine lv_aload_n X.1 X.2.1 dX0_joinNodes_134 rfl (lv_at hl 1 rfl) ?_
        refine ze_gtR X 0 2 21 (RX0, TX0, 13) rfl hf hW hK0 rfl (by decide) kfl_X0_21 dX0_joinNodes_135 (fun o55 hg => ?_)
        replace hf := hg
        refine lv_iload_n X.1 X.2.1 dX0_joinNodes_138 rfl (lv_at hl 2 rfl) ?_
        obtain ⟨a56, rfl, k58, hg⟩ := zh_dr hf
        replace hf := hg
        obtain ⟨v59, h60, hg⟩ := zh_bd hf
        replace hf := hg
        refine ze_aftI0 (ze_runV (As := [.int x1]) (rest := [zrf B o54]) X 5 84 (c_X5_headOf l D B n k58 h60) vX5_headOf kml_X0_84 hW k58 rfl rfl ⟨by (try dsimp only) <;> omega, by (try dsimp only) <;> omega⟩ rfl hl.1 rfl (by simp [zcat, zcat_i, zcat_r, zcat_l]) ⟨Nat.le_refl _, Nat.le_refl _⟩ dX0_joinNodes_139) hW (fun H locs hV => ?_)
        replace hW := hV
        refine lv_iload X.1 X.2.1 dX0_joinNodes_142 (lv_at hl 7 rfl) ?_
        obtain ⟨a61, rfl, k63, hg⟩ := zh_dr hf
        replace hf := hg
        obtain ⟨v64, I65, h66, hg⟩ := zh_bd2 hf
        replace hf := hg
        refine ze_aftI0 (ze_runV (As := [.int v59, .int x6]) (rest := []) X 5 87 (c_X5_append l D B n k63 h66) vX5_append kml_X0_87 hW k63 rfl rfl ⟨by (try dsimp only) <;> omega, by (try dsimp only) <;> omega⟩ rfl hl.1 rfl (Nat.le_of_ble_eq_true rfl) ⟨Nat.le_refl _, Nat.le_refl _⟩ dX0_joinNodes_144) hW (fun H locs hV => ?_)
        replace hW := hV
        refine lv_if_eq (tgt := 172) X.1 X.2.1 dX0_joinNodes_147 (by decide) (fun c67 => ?_) (fun c67 => ?_)
        · replace hf := zif_pos c67 hf
          refine lv_iconst (v := 0) X.1 X.2.1 dX0_joinNodes_172 (by decide) ?_
          obtain ⟨rfl, rfl, rfl⟩ := zi3 hf
          exact ze_retZ X hr hlk (by decide) hW (Nat.le_refl _) (Nat.le_refl _) dX0_joinNodes_173
        · replace hf := zif_neg c67 hf
          refine lv_aload_n X.1 X.2.1 dX0_joinNodes_150 rfl (lv_at hl 1 rfl) ?_
          refine lv_iload_n X.1 X.2.1 dX0_joinNodes_151 rfl (lv_at hl 2 rfl) ?_
          refine lv_iconst (v := 1) X.1 X.2.1 dX0_joinNodes_152 (by decide) ?_
          refine lv_iadd X.1 X.2.1 dX0_joinNodes_153 ?_
          refine lv_iload_n X.1 X.2.1 dX0_joinNodes_154 rfl (lv_at hl 3 rfl) ?_
          refine lv_iconst (v := 1) X.1 X.2.1 dX0_joinNodes_155 (by decide) ?_
          refine lv_iadd X.1 X.2.1 dX0_joinNodes_156 ?_
          refine lv_iload X.1 X.2.1 dX0_joinNodes_157 (lv_at hl 7 rfl) ?_
          refine lv_iload_n X.1 X.2.1 dX0_joinNodes_159 rfl (lv_at hl 4 rfl) ?_
          refine lv_iconst (v := 1) X.1 X.2.1 dX0_joinNodes_160 (by decide) ?_
          refine lv_iadd X.1 X.2.1 dX0_joinNodes_161 ?_
          obtain ⟨v68, I69, R70, h71, hg⟩ := zh_bd3 hf
          replace hf := hg
          refine ze_aftI0 (ze_runV (As := [.int (x1 + (1 : Int32)), .int (x2 + (1 : Int32)), .int x6, .int (x3 + (1 : Int32))]) (rest := []) X 0 90 (c_X0_joinRow l D B n hrec hK0 h71) vX0_joinRow kml_X0_90 hW hK0 rfl rfl ⟨by (try dsimp only) <;> omega, by (try dsimp only) <;> omega⟩ rfl hl.1 rfl (Nat.le_of_ble_eq_true rfl) ⟨Nat.le_refl _, Nat.le_refl _⟩ dX0_joinNodes_162) hW (fun H locs hV => ?_)
          replace hW := hV
          refine lv_if_eq (tgt := 172) X.1 X.2.1 dX0_joinNodes_165 (by decide) (fun c72 => ?_) (fun c72 => ?_)
          · replace hf := zif_pos c72 hf
            refine lv_iconst (v := 0) X.1 X.2.1 dX0_joinNodes_172 (by decide) ?_
            obtain ⟨rfl, rfl, rfl⟩ := zi3 hf
            exact ze_retZ X hr hlk (by decide) hW (Nat.le_refl _) (Nat.le_refl _) dX0_joinNodes_173
          · replace hf := zif_neg c72 hf
            refine lv_iconst (v := 1) X.1 X.2.1 dX0_joinNodes_168 (by decide) ?_
            refine lv_goto (tgt := 173) X.1 X.2.1 dX0_joinNodes_169 (by decide) ?_
            obtain ⟨rfl, rfl, rfl⟩ := zi3 hf
            exact ze_retZ X hr hlk (by decide) hW (Nat.le_refl _) (Nat.le_refl _) dX0_joinNodes_173
set_option maxRecDepth 100000 in
set_option maxHeartbeats 4000000 in
theorem w_X0_joinNodes_98 {F : Nat} {rec : zI → zR → Nat → Int32 → Int32 → Int32 → Option (Int32 × zI × zR)} {a0 : Nat}  (X : zX p s m c cX0_joinNodes 8 RX0 D) (hr : meth.sig.returnType = some .boolean) (hlk : meth.locks = false) (hrec : ∀ {I : zI} {R : zR} {b : Nat} {q1 q2 q3 : Int32} {r : Int32} {I' : zI} {R' : zR}, (K b).1 = 10 → rec I R b q1 q2 q3 = some (r, I', R') → zM l yX0_joinNodes cX0_joinNodes 8 (some .boolean) ({ frames := fd, cells := 0, slots := 0, locals := ld } : Room) D B n K I R [.ref (B + b), .int q1, .int q2, .int q3] (zQi D (zOwn B K (B + n)) r B n K I' R')) (hK0 : (K a0).1 = 10)  {x1 : Int32} {x2 : Int32} {x3 : Int32} {x4 : Int32} {x5 : Int32} {x6 : Int32} (hf : f_X0_joinNodes_98 F K rec a0  I R x1 x2 x3 x4 x5 x6 = some (r, I', R')) (hW : zS (zOwn B K (B + n)) D B n K I R s.heap H locs) (hl : lv_has ls 8 [(0, .ref (B + a0)), (1, .int x1), (2, .int x2), (3, .int x3), (4, .int x4), (5, .int x5), (6, .int x6)]) : W p l e ({ frames := fd + 8, cells := 0, slots := 0, locals := ld + 400 } : Room) s m args below meth c H locs 0 0 (MQ below (zQi D (zOwn B K (B + n)) r B n K I' R') args s 0 0 (zOwn B K (B + n))) (F0 m 98 ls []) := by
  unfold f_X0_joinNodes_98 at hf
  refine lv_iconst (v := 0) X.1 X.2.1 dX0_joinNodes_98 (by decide) ?_
  exact w_X0_joinNodes_99 X hr hlk hrec hK0 hf hW hl
set_option maxRecDepth 100000 in
set_option maxHeartbeats 4000000 in
theorem w_X0_joinNodes_64 {F : Nat} {rec : zI → zR → Nat → Int32 → Int32 → Int32 → Option (Int32 × zI × zR)} {a0 : Nat}  (X : zX p s m c cX0_joinNodes 8 RX0 D) (hr : meth.sig.returnType = some .boolean) (hlk : meth.locks = false) (hrec : ∀ {I : zI} {R : zR} {b : Nat} {q1 q2 q3 : Int32} {r : Int32} {I' : zI} {R' : zR}, (K b).1 = 10 → rec I R b q1 q2 q3 = some (r, I', R') → zM l yX0_joinNodes cX0_joinNodes 8 (some .boolean) ({ frames := fd, cells := 0, slots := 0, locals := ld } : Room) D B n K I R [.ref (B + b), .int q1, .int q2, .int q3] (zQi D (zOwn B K (B + n)) r B n K I' R')) (hK0 : (K a0).1 = 10)  {x1 : Int32} {x2 : Int32} {x3 : Int32} {x4 : Int32} {s0 : Int32} (hf : f_X0_joinNodes_64 F K rec a0  I R x1 x2 x3 x4 s0 = some (r, I', R')) (hW : zS (zOwn B K (B + n)) D B n K I R s.heap H locs) (hl : lv_has ls 8 [(0, .ref (B + a0)), (1, .int x1), (2, .int x2), (3, .int x3), (4, .int x4)]) : W p l e ({ frames := fd + 8, cells := 0, slots := 0, locals := ld + 400 } : Room) s m args below meth c H locs 0 0 (MQ below (zQi D (zOwn B K (B + n)) r B n K I' R') args s 0 0 (zOwn B K (B + n))) (F0 m 64 ls [.int s0]) := by
  unfold f_X0_joinNodes_64 at hf
  refine lv_istore (lv' := [(5, .int s0), (0, .ref (B + a0)), (1, .int x1), (2, .int x2), (3, .int x3), (4, .int x4)]) X.1 X.2.1 dX0_joinNodes_64 hl (by decide) rfl (fun ls hk => ?_)
  replace hl := hk
  refine lv_aload_n X.1 X.2.1 dX0_joinNodes_66 rfl (lv_at hl 1 rfl) ?_
  refine ze_gtR X 0 2 21 (RX0, TX0, 13) rfl hf hW hK0 rfl (by decide) kfl_X0_21 dX0_joinNodes_67 (fun o73 hg => ?_)
  replace hf := hg
  refine lv_iload_n X.1 X.2.1 dX0_joinNodes_70 rfl (lv_at hl 2 rfl) ?_
  obtain ⟨a74, rfl, k76, hg⟩ := zh_dr hf
  replace hf := hg
  obtain ⟨v77, h78, hg⟩ := zh_bd hf
  replace hf := hg
  refine ze_aftI0 (ze_runV (As := [.int x1]) (rest := []) X 5 81 (c_X5_argumentsOf l D B n k76 h78) vX5_argumentsOf kml_X0_81 hW k76 rfl rfl ⟨by (try dsimp only) <;> omega, by (try dsimp only) <;> omega⟩ rfl hl.1 rfl (Nat.le_of_ble_eq_true rfl) ⟨Nat.le_refl _, Nat.le_refl _⟩ dX0_joinNodes_71) hW (fun H locs hV => ?_)
  replace hW := hV
  refine lv_istore (lv' := [(6, .int v77), (5, .int s0), (0, .ref (B + a0)), (1, .int x1), (2, .int x2), (3, .int x3), (4, .int x4)]) X.1 X.2.1 dX0_joinNodes_74 hl (by decide) rfl (fun ls hk => ?_)
  replace hl := hk
  refine lv_iload X.1 X.2.1 dX0_joinNodes_76 (lv_at hl 0 rfl) ?_
  refine lv_aload_n X.1 X.2.1 dX0_joinNodes_78 rfl (lv_at hl 2 rfl) ?_
  refine ze_gtR X 0 3 25 (RX0, TX0, 13) rfl hf hW hK0 rfl (by decide) kfl_X0_25 dX0_joinNodes_79 (fun o79 hg => ?_)
  replace hf := hg
  refine lv_iload_n X.1 X.2.1 dX0_joinNodes_82 rfl (lv_at hl 4 rfl) ?_
  obtain ⟨a80, rfl, k82, hg⟩ := zh_dr hf
  replace hf := hg
  obtain ⟨v83, h84, hg⟩ := zh_bd hf
  replace hf := hg
  refine ze_aftI0 (ze_runV (As := [.int x2]) (rest := [.int v77]) X 5 81 (c_X5_argumentsOf l D B n k82 h84) vX5_argumentsOf kml_X0_81 hW k82 rfl rfl ⟨by (try dsimp only) <;> omega, by (try dsimp only) <;> omega⟩ rfl hl.1 rfl (Nat.le_of_ble_eq_true rfl) ⟨Nat.le_refl _, Nat.le_refl _⟩ dX0_joinNodes_83) hW (fun H locs hV => ?_)
  replace hW := hV
  refine lv_icmp_ne (tgt := 98) X.1 X.2.1 dX0_joinNodes_86 (by decide) (fun c85 => ?_) (fun c85 => ?_)
  · replace hf := zif_neg c85 hf
    exact w_X0_joinNodes_98 X hr hlk hrec hK0 hf hW (lv_sub hl [2, 3, 4, 5, 6, 1, 0] rfl)
  · replace hf := zif_pos c85 hf
    refine lv_iload X.1 X.2.1 dX0_joinNodes_89 (lv_at hl 1 rfl) ?_
    refine lv_if_ne (tgt := 98) X.1 X.2.1 dX0_joinNodes_91 (by decide) (fun c86 => ?_) (fun c86 => ?_)
    · replace hf := zif_neg c86 hf
      exact w_X0_joinNodes_98 X hr hlk hrec hK0 hf hW (lv_sub hl [2, 3, 4, 5, 6, 1, 0] rfl)
    · replace hf := zif_pos c86 hf
      refine lv_iconst (v := 1) X.1 X.2.1 dX0_joinNodes_94 (by decide) ?_
      refine lv_goto (tgt := 99) X.1 X.2.1 dX0_joinNodes_95 (by decide) ?_
      exact w_X0_joinNodes_99 X hr hlk hrec hK0 hf hW (lv_sub hl [2, 3, 4, 5, 6, 1, 0] rfl)
set_option maxRecDepth 100000 in
set_option maxHeartbeats 4000000 in
theorem w_X0_joinNodes_59 {F : Nat} {rec : zI → zR → Nat → Int32 → Int32 → Int32 → Option (Int32 × zI × zR)} {a0 : Nat}  (X : zX p s m c cX0_joinNodes 8 RX0 D) (hr : meth.sig.returnType = some .boolean) (hlk : meth.locks = false) (hrec : ∀ {I : zI} {R : zR} {b : Nat} {q1 q2 q3 : Int32} {r : Int32} {I' : zI} {R' : zR}, (K b).1 = 10 → rec I R b q1 q2 q3 = some (r, I', R') → zM l yX0_joinNodes cX0_joinNodes 8 (some .boolean) ({ frames := fd, cells := 0, slots := 0, locals := ld } : Room) D B n K I R [.ref (B + b), .int q1, .int q2, .int q3] (zQi D (zOwn B K (B + n)) r B n K I' R')) (hK0 : (K a0).1 = 10)  {x1 : Int32} {x2 : Int32} {x3 : Int32} {x4 : Int32} (hf : f_X0_joinNodes_59 F K rec a0  I R x1 x2 x3 x4 = some (r, I', R')) (hW : zS (zOwn B K (B + n)) D B n K I R s.heap H locs) (hl : lv_has ls 8 [(0, .ref (B + a0)), (1, .int x1), (2, .int x2), (3, .int x3), (4, .int x4)]) : W p l e ({ frames := fd + 8, cells := 0, slots := 0, locals := ld + 400 } : Room) s m args below meth c H locs 0 0 (MQ below (zQi D (zOwn B K (B + n)) r B n K I' R') args s 0 0 (zOwn B K (B + n))) (F0 m 59 ls []) := by
  unfold f_X0_joinNodes_59 at hf
  refine lv_iconst (v := 1) X.1 X.2.1 dX0_joinNodes_59 (by decide) ?_
  refine lv_goto (tgt := 64) X.1 X.2.1 dX0_joinNodes_60 (by decide) ?_
  exact w_X0_joinNodes_64 X hr hlk hrec hK0 hf hW hl
set_option maxRecDepth 100000 in
set_option maxHeartbeats 4000000 in
theorem w_X0_joinNodes_35 {F : Nat} {rec : zI → zR → Nat → Int32 → Int32 → Int32 → Option (Int32 × zI × zR)} {a0 : Nat}  (X : zX p s m c cX0_joinNodes 8 RX0 D) (hr : meth.sig.returnType = some .boolean) (hlk : meth.locks = false) (hrec : ∀ {I : zI} {R : zR} {b : Nat} {q1 q2 q3 : Int32} {r : Int32} {I' : zI} {R' : zR}, (K b).1 = 10 → rec I R b q1 q2 q3 = some (r, I', R') → zM l yX0_joinNodes cX0_joinNodes 8 (some .boolean) ({ frames := fd, cells := 0, slots := 0, locals := ld } : Room) D B n K I R [.ref (B + b), .int q1, .int q2, .int q3] (zQi D (zOwn B K (B + n)) r B n K I' R')) (hK0 : (K a0).1 = 10)  {x1 : Int32} {x2 : Int32} {x3 : Int32} {s0 : Int32} (hf : f_X0_joinNodes_35 F K rec a0  I R x1 x2 x3 s0 = some (r, I', R')) (hW : zS (zOwn B K (B + n)) D B n K I R s.heap H locs) (hl : lv_has ls 8 [(0, .ref (B + a0)), (1, .int x1), (2, .int x2), (3, .int x3)]) : W p l e ({ frames := fd + 8, cells := 0, slots := 0, locals := ld + 400 } : Room) s m args below meth c H locs 0 0 (MQ below (zQi D (zOwn B K (B + n)) r B n K I' R') args s 0 0 (zOwn B K (B + n))) (F0 m 35 ls [.int s0]) := by
  unfold f_X0_joinNodes_35 at hf
  refine lv_istore (lv' := [(4, .int s0), (0, .ref (B + a0)), (1, .int x1), (2, .int x2), (3, .int x3)]) X.1 X.2.1 dX0_joinNodes_35 hl (by decide) rfl (fun ls hk => ?_)
  replace hl := hk
  refine lv_aload_n X.1 X.2.1 dX0_joinNodes_37 rfl (lv_at hl 1 rfl) ?_
  refine ze_gtR X 0 2 21 (RX0, TX0, 13) rfl hf hW hK0 rfl (by decide) kfl_X0_21 dX0_joinNodes_38 (fun o87 hg => ?_)
  replace hf := hg
  refine lv_iload_n X.1 X.2.1 dX0_joinNodes_41 rfl (lv_at hl 2 rfl) ?_
  obtain ⟨a88, rfl, k90, hg⟩ := zh_dr hf
  replace hf := hg
  obtain ⟨v91, h92, hg⟩ := zh_bd hf
  replace hf := hg
  refine ze_aftI0 (ze_runV (As := [.int x1]) (rest := []) X 5 78 (c_X5_sequencePlace l D B n k90 h92) vX5_sequencePlace kml_X0_78 hW k90 rfl rfl ⟨by (try dsimp only) <;> omega, by (try dsimp only) <;> omega⟩ rfl hl.1 rfl (Nat.le_of_ble_eq_true rfl) ⟨Nat.le_refl _, Nat.le_refl _⟩ dX0_joinNodes_42) hW (fun H locs hV => ?_)
  replace hW := hV
  refine lv_if_ge (tgt := 59) X.1 X.2.1 dX0_joinNodes_45 (by decide) (fun c93 => ?_) (fun c93 => ?_)
  · replace hf := zif_pos c93 hf
    exact w_X0_joinNodes_59 X hr hlk hrec hK0 hf hW (lv_sub hl [1, 2, 3, 4, 0] rfl)
  · replace hf := zif_neg c93 hf
    refine lv_aload_n X.1 X.2.1 dX0_joinNodes_48 rfl (lv_at hl 1 rfl) ?_
    refine ze_gtR X 0 3 25 (RX0, TX0, 13) rfl hf hW hK0 rfl (by decide) kfl_X0_25 dX0_joinNodes_49 (fun o94 hg => ?_)
    replace hf := hg
    refine lv_iload_n X.1 X.2.1 dX0_joinNodes_52 rfl (lv_at hl 3 rfl) ?_
    obtain ⟨a95, rfl, k97, hg⟩ := zh_dr hf
    replace hf := hg
    obtain ⟨v98, h99, hg⟩ := zh_bd hf
    replace hf := hg
    refine ze_aftI0 (ze_runV (As := [.int x2]) (rest := []) X 5 78 (c_X5_sequencePlace l D B n k97 h99) vX5_sequencePlace kml_X0_78 hW k97 rfl rfl ⟨by (try dsimp only) <;> omega, by (try dsimp only) <;> omega⟩ rfl hl.1 rfl (Nat.le_of_ble_eq_true rfl) ⟨Nat.le_refl _, Nat.le_refl _⟩ dX0_joinNodes_53) hW (fun H locs hV => ?_)
    replace hW := hV
    refine lv_if_lt (tgt := 63) X.1 X.2.1 dX0_joinNodes_56 (by decide) (fun c100 => ?_) (fun c100 => ?_)
    · replace hf := zif_pos c100 hf
      refine lv_iconst (v := 0) X.1 X.2.1 dX0_joinNodes_63 (by decide) ?_
      exact w_X0_joinNodes_64 X hr hlk hrec hK0 hf hW (lv_sub hl [1, 2, 3, 4, 0] rfl)
    · replace hf := zif_neg c100 hf
      exact w_X0_joinNodes_59 X hr hlk hrec hK0 hf hW (lv_sub hl [1, 2, 3, 4, 0] rfl)
set_option maxRecDepth 100000 in
set_option maxHeartbeats 4000000 in
theorem w_X0_joinNodes_34 {F : Nat} {rec : zI → zR → Nat → Int32 → Int32 → Int32 → Option (Int32 × zI × zR)} {a0 : Nat}  (X : zX p s m c cX0_joinNodes 8 RX0 D) (hr : meth.sig.returnType = some .boolean) (hlk : meth.locks = false) (hrec : ∀ {I : zI} {R : zR} {b : Nat} {q1 q2 q3 : Int32} {r : Int32} {I' : zI} {R' : zR}, (K b).1 = 10 → rec I R b q1 q2 q3 = some (r, I', R') → zM l yX0_joinNodes cX0_joinNodes 8 (some .boolean) ({ frames := fd, cells := 0, slots := 0, locals := ld } : Room) D B n K I R [.ref (B + b), .int q1, .int q2, .int q3] (zQi D (zOwn B K (B + n)) r B n K I' R')) (hK0 : (K a0).1 = 10)  {x1 : Int32} {x2 : Int32} {x3 : Int32} (hf : f_X0_joinNodes_34 F K rec a0  I R x1 x2 x3 = some (r, I', R')) (hW : zS (zOwn B K (B + n)) D B n K I R s.heap H locs) (hl : lv_has ls 8 [(0, .ref (B + a0)), (1, .int x1), (2, .int x2), (3, .int x3)]) : W p l e ({ frames := fd + 8, cells := 0, slots := 0, locals := ld + 400 } : Room) s m args below meth c H locs 0 0 (MQ below (zQi D (zOwn B K (B + n)) r B n K I' R') args s 0 0 (zOwn B K (B + n))) (F0 m 34 ls []) := by
  unfold f_X0_joinNodes_34 at hf
  refine lv_iconst (v := 0) X.1 X.2.1 dX0_joinNodes_34 (by decide) ?_
  exact w_X0_joinNodes_35 X hr hlk hrec hK0 hf hW hl
set_option maxRecDepth 100000 in
set_option maxHeartbeats 4000000 in
theorem cg_X0_joinNodes (l : Launch) (D : zD) (B n : Nat) {fd ld : Nat} {F : Nat} {K : zK} {rec : zI → zR → Nat → Int32 → Int32 → Int32 → Option (Int32 × zI × zR)} {I : zI} {R : zR} {a0 : Nat} {x1 : Int32} {x2 : Int32} {x3 : Int32} {r : Int32} {I' : zI} {R' : zR} (hrec : ∀ {I : zI} {R : zR} {b : Nat} {q1 q2 q3 : Int32} {r : Int32} {I' : zI} {R' : zR}, (K b).1 = 10 → rec I R b q1 q2 q3 = some (r, I', R') → zM l yX0_joinNodes cX0_joinNodes 8 (some .boolean) ({ frames := fd, cells := 0, slots := 0, locals := ld } : Room) D B n K I R [.ref (B + b), .int q1, .int q2, .int q3] (zQi D (zOwn B K (B + n)) r B n K I' R')) (hK0 : (K a0).1 = 10) (hf : g_X0_joinNodes F K rec I R a0 x1 x2 x3 = some (r, I', R')) : zM l yX0_joinNodes cX0_joinNodes 8 (some .boolean) ({ frames := fd + 8, cells := 0, slots := 0, locals := ld + 400 } : Room) D B n K I R [.ref (B + a0), .int x1, .int x2, .int x3] (zQi D (zOwn B K (B + n)) r B n K I' R') := by
  refine ze_entry (lv0 := [(0, .ref (B + a0)), (1, .int x1), (2, .int x2), (3, .int x3)]) (by decide) (by simp [lg_sl, zcat, zcat_i, zcat_r, zcat_l]) (by simp [lv_args, zcat, zcat_i, zcat_r, zcat_l]) (fun p e s m below meth c X hr hlk hin hW ls hl => ?_)
  unfold g_X0_joinNodes at hf
  refine lv_iload_n X.1 X.2.1 dX0_joinNodes_0 rfl (lv_at hl 3 rfl) ?_
  refine lv_bipush (v := 7) X.1 X.2.1 dX0_joinNodes_1 (by decide) ?_
  refine lv_icmp_le (tgt := 8) X.1 X.2.1 dX0_joinNodes_3 (by decide) (fun c101 => ?_) (fun c101 => ?_)
  · replace hf := zif_pos c101 hf
    refine lv_aload_n X.1 X.2.1 dX0_joinNodes_8 rfl (lv_at hl 0 rfl) ?_
    refine ze_gtR X 0 2 21 (RX0, TX0, 13) rfl hf hW hK0 rfl (by decide) kfl_X0_21 dX0_joinNodes_9 (fun o102 hg => ?_)
    replace hf := hg
    refine lv_iload_n X.1 X.2.1 dX0_joinNodes_12 rfl (lv_at hl 1 rfl) ?_
    obtain ⟨a103, rfl, k105, hg⟩ := zh_dr hf
    replace hf := hg
    obtain ⟨v106, h107, hg⟩ := zh_bd hf
    replace hf := hg
    refine ze_aftI0 (ze_runV (As := [.int x1]) (rest := []) X 5 75 (c_X5_sortOf l D B n k105 h107) vX5_sortOf kml_X0_75 hW k105 rfl rfl ⟨by (try dsimp only) <;> omega, by (try dsimp only) <;> omega⟩ rfl hl.1 rfl (Nat.le_of_ble_eq_true rfl) ⟨Nat.le_refl _, Nat.le_refl _⟩ dX0_joinNodes_13) hW (fun H locs hV => ?_)
    replace hW := hV
    refine lv_if_ne (tgt := 34) X.1 X.2.1 dX0_joinNodes_16 (by decide) (fun c108 => ?_) (fun c108 => ?_)
    · replace hf := zif_neg c108 hf
      exact w_X0_joinNodes_34 X hr hlk hrec hK0 hf hW hl
    · replace hf := zif_pos c108 hf
      refine lv_aload_n X.1 X.2.1 dX0_joinNodes_19 rfl (lv_at hl 0 rfl) ?_
      refine ze_gtR X 0 3 25 (RX0, TX0, 13) rfl hf hW hK0 rfl (by decide) kfl_X0_25 dX0_joinNodes_20 (fun o109 hg => ?_)
      replace hf := hg
      refine lv_iload_n X.1 X.2.1 dX0_joinNodes_23 rfl (lv_at hl 2 rfl) ?_
      obtain ⟨a110, rfl, k112, hg⟩ := zh_dr hf
      replace hf := hg
      obtain ⟨v113, h114, hg⟩ := zh_bd hf
      replace hf := hg
      refine ze_aftI0 (ze_runV (As := [.int x2]) (rest := []) X 5 75 (c_X5_sortOf l D B n k112 h114) vX5_sortOf kml_X0_75 hW k112 rfl rfl ⟨by (try dsimp only) <;> omega, by (try dsimp only) <;> omega⟩ rfl hl.1 rfl (Nat.le_of_ble_eq_true rfl) ⟨Nat.le_refl _, Nat.le_refl _⟩ dX0_joinNodes_24) hW (fun H locs hV => ?_)
      replace hW := hV
      refine lv_if_ne (tgt := 34) X.1 X.2.1 dX0_joinNodes_27 (by decide) (fun c115 => ?_) (fun c115 => ?_)
      · replace hf := zif_neg c115 hf
        exact w_X0_joinNodes_34 X hr hlk hrec hK0 hf hW hl
      · replace hf := zif_pos c115 hf
        refine lv_iconst (v := 1) X.1 X.2.1 dX0_joinNodes_30 (by decide) ?_
        refine lv_goto (tgt := 35) X.1 X.2.1 dX0_joinNodes_31 (by decide) ?_
        exact w_X0_joinNodes_35 X hr hlk hrec hK0 hf hW hl
  · replace hf := zif_neg c101 hf
    refine lv_iconst (v := 0) X.1 X.2.1 dX0_joinNodes_6 (by decide) ?_
    obtain ⟨rfl, rfl, rfl⟩ := zi3 hf
    exact ze_retZ X hr hlk (by decide) hW (Nat.le_refl _) (Nat.le_refl _) dX0_joinNodes_7
set_option maxRecDepth 100000 in
set_option maxHeartbeats 4000000 in
theorem c_X0_joinNodes (l : Launch) (D : zD) (B n : Nat) {F : Nat} {K : zK} : ∀ (d : Nat) {I : zI} {R : zR} {a0 : Nat} {x1 x2 x3 : Int32} {r : Int32} {I' : zI} {R' : zR} (hK0 : (K a0).1 = 10) (hf : f_X0_joinNodes F K d I R a0 x1 x2 x3 = some (r, I', R')), zM l yX0_joinNodes cX0_joinNodes 8 (some .boolean) ({ frames := 8 * d, cells := 0, slots := 0, locals := 400 * d } : Room) D B n K I R [.ref (B + a0), .int x1, .int x2, .int x3] (zQi D (zOwn B K (B + n)) r B n K I' R') := by
  intro d
  induction d with
  | zero =>
    intro I R a0 x1 x2 x3 r I' R' hK0 hf
    cases hf
  | succ d ih =>
    intro I R a0 x1 x2 x3 r I' R' hK0 hf
    exact cg_X0_joinNodes l D B n (fd := 8 * d) (ld := 400 * d) (fun h1 h2 => ih h1 h2) hK0 hf
end

/-! LeastPatterns$Joiner.joined(LLeastPatterns$Term;LLeastPatterns$Term;)LLeastPatterns$Term; -/
def f_X0_joined (F : Nat) (n : Nat) (K : zK) (I : zI) (R : zR) (a0 : Nat) (x1 : Option Nat) (x2 : Option Nat) : Option (Option Nat × Nat × zK × zI × zR) :=
  if (K a0).1 = 10 then
  zbd (some (zup R a0 2 x1)) fun R2 =>
  zbd (some (zup R2 a0 3 x2)) fun R3 =>
  zbd4 (some (n + 1, zset K n (15, 0), zclr I n 0, zclr R3 n none)) fun n4 K5 I6 R7 =>
  zbd4 (f_X5_init F n4 K5 I6 R7 n) fun n8 K9 I10 R11 =>
  if (K9 a0).1 = 10 then
  zbd (some (zup R11 a0 4 (some n))) fun R14 =>
  zbd3 (f_X0_joinNodes F K9 10 I10 R14 a0 (0 : Int32) (0 : Int32) (0 : Int32)) fun v15 I16 R17 =>
  if v15 = (0 : Int32) then
    some (none, n8, K9, I16, R17)
  else
    zbd (some (R17 a0 4)) fun o20 =>
    zbd (zdr K9 o20 15) fun a21 =>
    zbd (f_X5_settle F K9 I16 R17 a21) fun I24 =>
    zbd (some (R17 a0 4)) fun o26 =>
    some (o26, n8, K9, I24, R17)
  else none
  else none
section
variable {p : Program} {l : Launch} {e : Env} {s : State} {m : MethodId} {args : Array Value} {below : List Frame} {meth : Method} {c : Code} {D : zD} {B n n0 n' fd ld : Nat} {K K0 K' : zK} {I I' : zI} {R R' : zR} {H : Heap} {locs : List Loc} {ls : Array Slot} {r : Option Nat}
set_option maxRecDepth 100000 in
set_option maxHeartbeats 4000000 in
theorem c_X0_joined (l : Launch) (D : zD) (B n : Nat) {F : Nat} {K : zK} {I : zI} {R : zR} {a0 : Nat} {x1 : Option Nat} {x2 : Option Nat} {r : Option Nat} {n' : Nat} {K' : zK} {I' : zI} {R' : zR} (hf : f_X0_joined F n K I R a0 x1 x2 = some (r, n', K', I', R')) : zM l yX0_joined cX0_joined 3 (some (.object "LeastPatterns$Term")) ({ frames := 81, cells := 4, slots := 100, locals := 4027 } : Room) D B n K I R [.ref (B + a0), zrf B x1, zrf B x2] (zQq D (zOwn B K (B + n)) r B n' K' I' R') := by
  refine ze_entry (lv0 := [(0, .ref (B + a0)), (1, zrf B x1), (2, zrf B x2)]) (by decide) (by simp [lg_sl, zcat, zcat_i, zcat_r, zcat_l]) (by simp [lv_args, zcat, zcat_i, zcat_r, zcat_l]) (fun p e s m below meth c X hr hlk hin hW ls hl => ?_)
  unfold f_X0_joined at hf
  have b1 : (0 : Nat) ≤ 0 := Nat.le_refl _
  refine lv_aload_n X.1 X.2.1 dX0_joined_0 rfl (lv_at hl 0 rfl) ?_
  refine ze_aload_n X.1 X.2.1 dX0_joined_1 rfl (lv_at hl 1 rfl) ?_
  obtain ⟨k1, hg⟩ := zh_if hf
  replace hf := hg
  refine ze_putR (ty := .object "LeastPatterns$Term") (x := x1) X 0 2 21 (RX0, TX0, 13) rfl (Or.inl ⟨_, rfl⟩) hf hW k1 rfl (by decide) kfl_X0_21 rfl (by decide +kernel) dX0_joined_2 (fun R2 H locs hg hV => ?_)
  replace hf := hg
  replace hW := hV
  refine lv_aload_n X.1 X.2.1 dX0_joined_5 rfl (lv_at hl 0 rfl) ?_
  refine ze_aload_n X.1 X.2.1 dX0_joined_6 rfl (lv_at hl 2 rfl) ?_
  refine ze_putR (ty := .object "LeastPatterns$Term") (x := x2) X 0 3 25 (RX0, TX0, 13) rfl (Or.inl ⟨_, rfl⟩) hf hW k1 rfl (by decide) kfl_X0_25 rfl (by decide +kernel) dX0_joined_7 (fun R3 H locs hg hV => ?_)
  replace hf := hg
  replace hW := hV
  refine lv_aload_n X.1 X.2.1 dX0_joined_10 rfl (lv_at hl 0 rfl) ?_
  refine ze_nw X 5 18 (RX5, TX5, 4) hf rfl kcx_X0_18 kci_X5 kit_X5 hW (by show _ ≤ (4 : Nat); (try dsimp only); omega) (by show _ ≤ (100 : Nat); (try dsimp only); omega) dX0_joined_11 (fun n4 K5 I6 R7 H hg hV => ?_)
  replace hf := hg
  replace hW := hV
  refine lv_dup X.1 X.2.1 dX0_joined_14 rfl ?_
  obtain ⟨n8, K9, I10, R11, h12, hg⟩ := zh_bd4 hf
  replace hf := hg
  refine ze_aftV (ze_runIN (b := n) (As := []) (rest := [.ref (B + n), .ref (B + a0)]) X 20 (c_X5_init l D B n4 h12) vX5_init kml_X0_20 hW ⟨by decide, by decide⟩ rfl hl.1 rfl (Nat.le_of_ble_eq_true rfl) ⟨by show _ + 3 ≤ (4 : Nat); (try dsimp only); omega, by show _ + 96 ≤ (100 : Nat); (try dsimp only); omega⟩ dX0_joined_15) hW (fun H locs hV => ?_)
  replace hW := hV
  obtain ⟨k13, hg⟩ := zh_if hf
  replace hf := hg
  refine ze_putR (ty := .object "LeastPatterns$Term") (x := (some n)) X 0 4 28 (RX0, TX0, 13) rfl (Or.inl ⟨_, rfl⟩) hf hW k13 rfl (by decide) kfl_X0_28 rfl (by decide +kernel) dX0_joined_18 (fun R14 H locs hg hV => ?_)
  replace hf := hg
  replace hW := hV
  refine lv_aload_n X.1 X.2.1 dX0_joined_21 rfl (lv_at hl 0 rfl) ?_
  refine lv_iconst (v := 0) X.1 X.2.1 dX0_joined_22 (by decide) ?_
  refine lv_iconst (v := 0) X.1 X.2.1 dX0_joined_23 (by decide) ?_
  refine lv_iconst (v := 0) X.1 X.2.1 dX0_joined_24 (by decide) ?_
  obtain ⟨v15, I16, R17, h18, hg⟩ := zh_bd3 hf
  replace hf := hg
  refine ze_aftI0 (ze_runV (As := [.int (0 : Int32), .int (0 : Int32), .int (0 : Int32)]) (rest := []) X 0 64 (c_X0_joinNodes l D B n8 10 k13 h18) vX0_joinNodes kml_X0_64 hW k13 rfl rfl ⟨by decide, by decide⟩ rfl hl.1 rfl (Nat.le_of_ble_eq_true rfl) ⟨by show _ + 0 ≤ (4 : Nat); (try dsimp only); omega, by show _ + 0 ≤ (100 : Nat); (try dsimp only); omega⟩ dX0_joined_25) hW (fun H locs hV => ?_)
  replace hW := hV
  refine lv_if_ne (tgt := 33) X.1 X.2.1 dX0_joined_28 (by decide) (fun c19 => ?_) (fun c19 => ?_)
  · replace hf := zif_neg c19 hf
    refine lv_aload_n X.1 X.2.1 dX0_joined_33 rfl (lv_at hl 0 rfl) ?_
    refine ze_gtR X 0 4 28 (RX0, TX0, 13) rfl hf hW k13 rfl (by decide) kfl_X0_28 dX0_joined_34 (fun o20 hg => ?_)
    replace hf := hg
    obtain ⟨a21, rfl, k23, hg⟩ := zh_dr hf
    replace hf := hg
    obtain ⟨I24, h25, hg⟩ := zh_bd hf
    replace hf := hg
    refine ze_aftV0 (ze_runV (As := []) (rest := []) X 5 68 (c_X5_settle l D B n8 k23 h25) vX5_settle kml_X0_68 hW k23 rfl rfl ⟨by decide, by decide⟩ rfl hl.1 rfl (Nat.le_of_ble_eq_true rfl) ⟨by show _ + 0 ≤ (4 : Nat); (try dsimp only); omega, by show _ + 0 ≤ (100 : Nat); (try dsimp only); omega⟩ dX0_joined_37) hW (fun H locs hV => ?_)
    replace hW := hV
    refine lv_aload_n X.1 X.2.1 dX0_joined_40 rfl (lv_at hl 0 rfl) ?_
    refine ze_gtR X 0 4 28 (RX0, TX0, 13) rfl hf hW k13 rfl (by decide) kfl_X0_28 dX0_joined_41 (fun o26 hg => ?_)
    replace hf := hg
    obtain ⟨rfl, rfl, rfl, rfl, rfl⟩ := zi5 hf
    exact ze_retQ X hr hlk hW (by (try dsimp only); omega) (by (try dsimp only); omega) dX0_joined_44
  · replace hf := zif_pos c19 hf
    refine lv_null X.1 X.2.1 dX0_joined_31 ?_
    obtain ⟨rfl, rfl, rfl, rfl, rfl⟩ := zi5 hf
    exact ze_retQ X hr hlk hW (by (try dsimp only); omega) (by (try dsimp only); omega) dX0_joined_32
end

/-! LeastPatterns.keep(LLeastPatterns$Term;I)I -/
def f_X6_keep (F : Nat) (K : zK) (I : zI) (R : zR) (a0 : Nat) (x1 : Option Nat) (x2 : Int32) : Option (Int32 × zI × zR) :=
  zcs x1 (
    some ((-3 : Int32), I, R)
  ) fun a1 =>
    zbd2 (f_X6_remember F K I R a0) fun I3 R4 =>
    zbd (some (R4 a0 3)) fun o6 =>
    zbd (zdr K o6 14) fun a7 =>
    zbd (f_X4_hold F K I3 R4 a7 x2 (some a1)) fun R10 =>
    if (K a1).1 = 15 then
    some (I3 a1 3, I3, R10)
    else none
section
variable {p : Program} {l : Launch} {e : Env} {s : State} {m : MethodId} {args : Array Value} {below : List Frame} {meth : Method} {c : Code} {D : zD} {B n n0 n' fd ld : Nat} {K K0 K' : zK} {I I' : zI} {R R' : zR} {H : Heap} {locs : List Loc} {ls : Array Slot} {r : Int32}
set_option maxRecDepth 100000 in
set_option maxHeartbeats 4000000 in
theorem c_X6_keep (l : Launch) (D : zD) (B n : Nat) {F : Nat} {K : zK} {I : zI} {R : zR} {a0 : Nat} {x1 : Option Nat} {x2 : Int32} {r : Int32} {I' : zI} {R' : zR} (hK0 : (K a0).1 = 16) (hf : f_X6_keep F K I R a0 x1 x2 = some (r, I', R')) : zM l yX6_keep cX6_keep 3 (some .int) ({ frames := 4, cells := 0, slots := 0, locals := 105 } : Room) D B n K I R [.ref (B + a0), zrf B x1, .int x2] (zQi D (zOwn B K (B + n)) r B n K I' R') := by
  refine ze_entry (lv0 := [(0, .ref (B + a0)), (1, zrf B x1), (2, .int x2)]) (by decide) (by simp [lg_sl, zcat, zcat_i, zcat_r, zcat_l]) (by simp [lv_args, zcat, zcat_i, zcat_r, zcat_l]) (fun p e s m below meth c X hr hlk hin hW ls hl => ?_)
  unfold f_X6_keep at hf
  refine ze_aload_n X.1 X.2.1 dX6_keep_0 rfl (lv_at hl 1 rfl) ?_
  refine ze_ifnonnull (tgt := 7) X.1 X.2.1 dX6_keep_1 (by decide) (fun a1 c2 => ?_) (fun c2 => ?_)
  · replace hf := zcs_some c2 hf
    subst c2
    refine lv_aload_n X.1 X.2.1 dX6_keep_7 rfl (lv_at hl 0 rfl) ?_
    obtain ⟨I3, R4, h5, hg⟩ := zh_bd2 hf
    replace hf := hg
    refine ze_aftV0 (ze_runV (As := []) (rest := []) X 6 95 (c_X6_remember l D B n hK0 h5) vX6_remember kml_X6_95 hW hK0 rfl rfl ⟨by decide, by decide⟩ rfl hl.1 rfl (Nat.le_of_ble_eq_true rfl) ⟨Nat.le_refl _, Nat.le_refl _⟩ dX6_keep_8) hW (fun H locs hV => ?_)
    replace hW := hV
    refine lv_aload_n X.1 X.2.1 dX6_keep_11 rfl (lv_at hl 0 rfl) ?_
    refine ze_gtR X 6 3 23 (RX6, TX6, 11) rfl hf hW hK0 rfl (by decide) kfl_X6_23 dX6_keep_12 (fun o6 hg => ?_)
    replace hf := hg
    refine lv_iload_n X.1 X.2.1 dX6_keep_15 rfl (lv_at hl 2 rfl) ?_
    refine lv_aload_n X.1 X.2.1 dX6_keep_16 rfl (lv_at hl 1 rfl) ?_
    obtain ⟨a7, rfl, k9, hg⟩ := zh_dr hf
    replace hf := hg
    obtain ⟨R10, h11, hg⟩ := zh_bd hf
    replace hf := hg
    refine ze_aftV0 (ze_runV (As := [.int x2, .ref (B + a1)]) (rest := []) X 4 98 (c_X4_hold l D B n k9 h11) vX4_hold kml_X6_98 hW k9 rfl rfl ⟨by decide, by decide⟩ rfl hl.1 rfl (Nat.le_of_ble_eq_true rfl) ⟨Nat.le_refl _, Nat.le_refl _⟩ dX6_keep_17) hW (fun H locs hV => ?_)
    replace hW := hV
    refine lv_aload_n X.1 X.2.1 dX6_keep_20 rfl (lv_at hl 1 rfl) ?_
    obtain ⟨k12, hg⟩ := zh_if hf
    replace hf := hg
    refine ze_getIN X 5 3 102 (RX5, TX5, 4) rfl hW k12 rfl (by decide) kfl_X6_102 dX6_keep_21 ?_
    obtain ⟨rfl, rfl, rfl⟩ := zi3 hf
    exact ze_retI X hr hlk hW (Nat.le_refl _) (Nat.le_refl _) dX6_keep_24
  · replace hf := zcs_none c2 hf
    subst c2
    refine lv_bipush (v := -3) X.1 X.2.1 dX6_keep_4 (by decide) ?_
    obtain ⟨rfl, rfl, rfl⟩ := zi3 hf
    exact ze_retI X hr hlk hW (Nat.le_refl _) (Nat.le_refl _) dX6_keep_6
end

/-! LeastPatterns.join(III)I -/
def f_X6_join (F : Nat) (n : Nat) (K : zK) (I : zI) (R : zR) (a0 : Nat) (x1 : Int32) (x2 : Int32) (x3 : Int32) : Option (Int32 × Nat × zK × zI × zR) :=
  zbd (f_X6_noRegister F K I R x1) fun v1 =>
  if v1 = (0 : Int32) then
    zbd (f_X6_noRegister F K I R x2) fun v4 =>
    if v4 = (0 : Int32) then
      zbd (f_X6_noRegister F K I R x3) fun v7 =>
      if v7 = (0 : Int32) then
        if (K a0).1 = 16 then
        zbd (some (R a0 3)) fun o11 =>
        zbd (zdr K o11 14) fun a12 =>
        zbd (f_X4_term F K I R a12 x1) fun o15 =>
        zbd (some (R a0 3)) fun o17 =>
        zbd (zdr K o17 14) fun a18 =>
        zbd (f_X4_term F K I R a18 x2) fun o21 =>
        zcs o15 (
          some ((-2 : Int32), n, K, I, R)
        ) fun a23 =>
          zcs o21 (
            some ((-2 : Int32), n, K, I, R)
          ) fun a25 =>
            zbd (some (R a0 8)) fun o27 =>
            zbd (some (R a0 3)) fun o28 =>
            zbd (zdr K o27 10) fun a29 =>
            zbd (f_X0_begin F K I R a29 o28) fun I32 =>
            zbd (some (R a0 8)) fun o34 =>
            zbd (zdr K o34 10) fun a35 =>
            zbd5 (f_X0_joined F n K I32 R a35 (some a23) (some a25)) fun o38 n39 K40 I41 R42 =>
            if (K40 a0).1 = 16 then
            zbd3 (f_X6_keep F K40 I41 R42 a0 o38 x3) fun v45 I46 R47 =>
            some (v45, n39, K40, I46, R47)
            else none
        else none
      else
        some ((-1 : Int32), n, K, I, R)
    else
      some ((-1 : Int32), n, K, I, R)
  else
    some ((-1 : Int32), n, K, I, R)
section
variable {p : Program} {l : Launch} {e : Env} {s : State} {m : MethodId} {args : Array Value} {below : List Frame} {meth : Method} {c : Code} {D : zD} {B n n0 n' fd ld : Nat} {K K0 K' : zK} {I I' : zI} {R R' : zR} {H : Heap} {locs : List Loc} {ls : Array Slot} {r : Int32}
set_option maxRecDepth 100000 in
set_option maxHeartbeats 4000000 in
theorem c_X6_join (l : Launch) (D : zD) (B n : Nat) {F : Nat} {K : zK} {I : zI} {R : zR} {a0 : Nat} {x1 : Int32} {x2 : Int32} {x3 : Int32} {r : Int32} {n' : Nat} {K' : zK} {I' : zI} {R' : zR} (hf : f_X6_join F n K I R a0 x1 x2 x3 = some (r, n', K', I', R')) : zM l yX6_join cX6_join 6 (some .int) ({ frames := 82, cells := 4, slots := 100, locals := 4049 } : Room) D B n K I R [.ref (B + a0), .int x1, .int x2, .int x3] (zQi D (zOwn B K (B + n)) r B n' K' I' R') := by
  refine ze_entry (lv0 := [(0, .ref (B + a0)), (1, .int x1), (2, .int x2), (3, .int x3)]) (by decide) (by simp [lg_sl, zcat, zcat_i, zcat_r, zcat_l]) (by simp [lv_args, zcat, zcat_i, zcat_r, zcat_l]) (fun p e s m below meth c X hr hlk hin hW ls hl => ?_)
  unfold f_X6_join at hf
  have b1 : (0 : Nat) ≤ 0 := Nat.le_refl _
  refine lv_iload_n X.1 X.2.1 dX6_join_0 rfl (lv_at hl 1 rfl) ?_
  obtain ⟨v1, h2, hg⟩ := zh_bd hf
  replace hf := hg
  refine ze_aftI0 (ze_runS (As := [.int x1]) (rest := []) X 69 (c_X6_noRegister l D B n h2) vX6_noRegister kml_X6_69 hW ⟨by decide, by decide⟩ rfl hl.1 rfl (Nat.le_of_ble_eq_true rfl) ⟨by show _ + 0 ≤ (4 : Nat); (try dsimp only); omega, by show _ + 0 ≤ (100 : Nat); (try dsimp only); omega⟩ dX6_join_1) hW (fun H locs hV => ?_)
  replace hW := hV
  refine lv_if_ne (tgt := 21) X.1 X.2.1 dX6_join_4 (by decide) (fun c3 => ?_) (fun c3 => ?_)
  · replace hf := zif_neg c3 hf
    refine lv_iconst (v := -1) X.1 X.2.1 dX6_join_21 (by decide) ?_
    obtain ⟨rfl, rfl, rfl, rfl, rfl⟩ := zi5 hf
    exact ze_retI X hr hlk hW (by (try dsimp only); omega) (by (try dsimp only); omega) dX6_join_22
  · replace hf := zif_pos c3 hf
    refine lv_iload_n X.1 X.2.1 dX6_join_7 rfl (lv_at hl 2 rfl) ?_
    obtain ⟨v4, h5, hg⟩ := zh_bd hf
    replace hf := hg
    refine ze_aftI0 (ze_runS (As := [.int x2]) (rest := []) X 69 (c_X6_noRegister l D B n h5) vX6_noRegister kml_X6_69 hW ⟨by decide, by decide⟩ rfl hl.1 rfl (Nat.le_of_ble_eq_true rfl) ⟨by show _ + 0 ≤ (4 : Nat); (try dsimp only); omega, by show _ + 0 ≤ (100 : Nat); (try dsimp only); omega⟩ dX6_join_8) hW (fun H locs hV => ?_)
    replace hW := hV
    refine lv_if_ne (tgt := 21) X.1 X.2.1 dX6_join_11 (by decide) (fun c6 => ?_) (fun c6 => ?_)
    · replace hf := zif_neg c6 hf
      refine lv_iconst (v := -1) X.1 X.2.1 dX6_join_21 (by decide) ?_
      obtain ⟨rfl, rfl, rfl, rfl, rfl⟩ := zi5 hf
      exact ze_retI X hr hlk hW (by (try dsimp only); omega) (by (try dsimp only); omega) dX6_join_22
    · replace hf := zif_pos c6 hf
      refine lv_iload_n X.1 X.2.1 dX6_join_14 rfl (lv_at hl 3 rfl) ?_
      obtain ⟨v7, h8, hg⟩ := zh_bd hf
      replace hf := hg
      refine ze_aftI0 (ze_runS (As := [.int x3]) (rest := []) X 69 (c_X6_noRegister l D B n h8) vX6_noRegister kml_X6_69 hW ⟨by decide, by decide⟩ rfl hl.1 rfl (Nat.le_of_ble_eq_true rfl) ⟨by show _ + 0 ≤ (4 : Nat); (try dsimp only); omega, by show _ + 0 ≤ (100 : Nat); (try dsimp only); omega⟩ dX6_join_15) hW (fun H locs hV => ?_)
      replace hW := hV
      refine lv_if_eq (tgt := 23) X.1 X.2.1 dX6_join_18 (by decide) (fun c9 => ?_) (fun c9 => ?_)
      · replace hf := zif_pos c9 hf
        refine lv_aload_n X.1 X.2.1 dX6_join_23 rfl (lv_at hl 0 rfl) ?_
        obtain ⟨k10, hg⟩ := zh_if hf
        replace hf := hg
        refine ze_gtR X 6 3 23 (RX6, TX6, 11) rfl hf hW k10 rfl (by decide) kfl_X6_23 dX6_join_24 (fun o11 hg => ?_)
        replace hf := hg
        refine lv_iload_n X.1 X.2.1 dX6_join_27 rfl (lv_at hl 1 rfl) ?_
        obtain ⟨a12, rfl, k14, hg⟩ := zh_dr hf
        replace hf := hg
        obtain ⟨o15, h16, hg⟩ := zh_bd hf
        replace hf := hg
        refine ze_aftQ0 (ze_runV (As := [.int x1]) (rest := []) X 4 107 (c_X4_term l D B n k14 h16) vX4_term kml_X6_107 hW k14 rfl rfl ⟨by decide, by decide⟩ rfl hl.1 rfl (Nat.le_of_ble_eq_true rfl) ⟨by show _ + 0 ≤ (4 : Nat); (try dsimp only); omega, by show _ + 0 ≤ (100 : Nat); (try dsimp only); omega⟩ dX6_join_28) hW (fun H locs hV => ?_)
        replace hW := hV
        refine ze_astore (lv' := [(4, zrf B o15), (0, .ref (B + a0)), (1, .int x1), (2, .int x2), (3, .int x3)]) X.1 X.2.1 dX6_join_31 hl (by decide) rfl (fun ls hk => ?_)
        replace hl := hk
        refine lv_aload_n X.1 X.2.1 dX6_join_33 rfl (lv_at hl 1 rfl) ?_
        refine ze_gtR X 6 3 23 (RX6, TX6, 11) rfl hf hW k10 rfl (by decide) kfl_X6_23 dX6_join_34 (fun o17 hg => ?_)
        replace hf := hg
        refine lv_iload_n X.1 X.2.1 dX6_join_37 rfl (lv_at hl 3 rfl) ?_
        obtain ⟨a18, rfl, k20, hg⟩ := zh_dr hf
        replace hf := hg
        obtain ⟨o21, h22, hg⟩ := zh_bd hf
        replace hf := hg
        refine ze_aftQ0 (ze_runV (As := [.int x2]) (rest := []) X 4 107 (c_X4_term l D B n k20 h22) vX4_term kml_X6_107 hW k20 rfl rfl ⟨by decide, by decide⟩ rfl hl.1 rfl (Nat.le_of_ble_eq_true rfl) ⟨by show _ + 0 ≤ (4 : Nat); (try dsimp only); omega, by show _ + 0 ≤ (100 : Nat); (try dsimp only); omega⟩ dX6_join_38) hW (fun H locs hV => ?_)
        replace hW := hV
        refine ze_astore (lv' := [(5, zrf B o21), (4, zrf B o15), (0, .ref (B + a0)), (1, .int x1), (2, .int x2), (3, .int x3)]) X.1 X.2.1 dX6_join_41 hl (by decide) (by first | rfl | (simp [zcat, zcat_i, zcat_r, zcat_l, zrf_some]; done) | (simp [zcat, zcat_i, zcat_r, zcat_l, zrf_some]; decide)) (fun ls hk => ?_)
        replace hl := hk
        refine ze_aload X.1 X.2.1 dX6_join_43 (lv_at hl 1 rfl) ?_
        refine ze_ifnull (tgt := 53) X.1 X.2.1 dX6_join_45 (by decide) (fun c24 => ?_) (fun a23 c24 => ?_)
        · replace hf := zcs_none c24 hf
          subst c24
          refine lv_bipush (v := -2) X.1 X.2.1 dX6_join_53 (by decide) ?_
          obtain ⟨rfl, rfl, rfl, rfl, rfl⟩ := zi5 hf
          exact ze_retI X hr hlk hW (by (try dsimp only); omega) (by (try dsimp only); omega) dX6_join_55
        · replace hf := zcs_some c24 hf
          subst c24
          refine ze_aload X.1 X.2.1 dX6_join_48 (lv_at hl 0 rfl) ?_
          refine ze_ifnonnull (tgt := 56) X.1 X.2.1 dX6_join_50 (by decide) (fun a25 c26 => ?_) (fun c26 => ?_)
          · replace hf := zcs_some c26 hf
            subst c26
            refine lv_aload_n X.1 X.2.1 dX6_join_56 rfl (lv_at hl 2 rfl) ?_
            refine ze_gtR X 6 8 51 (RX6, TX6, 11) rfl hf hW k10 rfl (by decide) kfl_X6_51 dX6_join_57 (fun o27 hg => ?_)
            replace hf := hg
            refine lv_aload_n X.1 X.2.1 dX6_join_60 rfl (lv_at hl 2 rfl) ?_
            refine ze_gtR X 6 3 23 (RX6, TX6, 11) rfl hf hW k10 rfl (by decide) kfl_X6_23 dX6_join_61 (fun o28 hg => ?_)
            replace hf := hg
            obtain ⟨a29, rfl, k31, hg⟩ := zh_dr hf
            replace hf := hg
            obtain ⟨I32, h33, hg⟩ := zh_bd hf
            replace hf := hg
            refine ze_aftV0 (ze_runV (As := [zrf B o28]) (rest := []) X 0 148 (c_X0_begin l D B n k31 h33) vX0_begin kml_X6_148 hW k31 rfl rfl ⟨by decide, by decide⟩ rfl hl.1 rfl (Nat.le_of_ble_eq_true rfl) ⟨by show _ + 0 ≤ (4 : Nat); (try dsimp only); omega, by show _ + 0 ≤ (100 : Nat); (try dsimp only); omega⟩ dX6_join_64) hW (fun H locs hV => ?_)
            replace hW := hV
            refine lv_aload_n X.1 X.2.1 dX6_join_67 rfl (lv_at hl 2 rfl) ?_
            refine lv_aload_n X.1 X.2.1 dX6_join_68 rfl (lv_at hl 2 rfl) ?_
            refine ze_gtR X 6 8 51 (RX6, TX6, 11) rfl hf hW k10 rfl (by decide) kfl_X6_51 dX6_join_69 (fun o34 hg => ?_)
            replace hf := hg
            refine lv_aload X.1 X.2.1 dX6_join_72 (lv_at hl 1 rfl) ?_
            refine lv_aload X.1 X.2.1 dX6_join_74 (lv_at hl 0 rfl) ?_
            obtain ⟨a35, rfl, k37, hg⟩ := zh_dr hf
            replace hf := hg
            obtain ⟨o38, n39, K40, I41, R42, h43, hg⟩ := zh_bd5 hf
            replace hf := hg
            refine ze_aftQ (ze_runV (As := [.ref (B + a23), .ref (B + a25)]) (rest := [.ref (B + a0)]) X 0 152 (c_X0_joined l D B n h43) vX0_joined kml_X6_152 hW k37 rfl rfl ⟨by decide, by decide⟩ rfl hl.1 rfl (Nat.le_of_ble_eq_true rfl) ⟨by show _ + 4 ≤ (4 : Nat); (try dsimp only); omega, by show _ + 100 ≤ (100 : Nat); (try dsimp only); omega⟩ dX6_join_76) hW (fun H locs hV => ?_)
            replace hW := hV
            refine lv_iload_n X.1 X.2.1 dX6_join_79 rfl (lv_at hl 5 rfl) ?_
            obtain ⟨k44, hg⟩ := zh_if hf
            replace hf := hg
            obtain ⟨v45, I46, R47, h48, hg⟩ := zh_bd3 hf
            replace hf := hg
            refine ze_aftI0 (ze_runV (As := [zrf B o38, .int x3]) (rest := []) X 6 156 (c_X6_keep l D B n39 k44 h48) vX6_keep kml_X6_156 hW k44 rfl rfl ⟨by decide, by decide⟩ rfl hl.1 rfl (Nat.le_of_ble_eq_true rfl) ⟨by show _ + 0 ≤ (4 : Nat); (try dsimp only); omega, by show _ + 0 ≤ (100 : Nat); (try dsimp only); omega⟩ dX6_join_80) hW (fun H locs hV => ?_)
            replace hW := hV
            obtain ⟨rfl, rfl, rfl, rfl, rfl⟩ := zi5 hf
            exact ze_retI X hr hlk hW (by (try dsimp only); omega) (by (try dsimp only); omega) dX6_join_83
          · replace hf := zcs_none c26 hf
            subst c26
            refine lv_bipush (v := -2) X.1 X.2.1 dX6_join_53 (by decide) ?_
            obtain ⟨rfl, rfl, rfl, rfl, rfl⟩ := zi5 hf
            exact ze_retI X hr hlk hW (by (try dsimp only); omega) (by (try dsimp only); omega) dX6_join_55
      · replace hf := zif_neg c9 hf
        refine lv_iconst (v := -1) X.1 X.2.1 dX6_join_21 (by decide) ?_
        obtain ⟨rfl, rfl, rfl, rfl, rfl⟩ := zi5 hf
        exact ze_retI X hr hlk hW (by (try dsimp only); omega) (by (try dsimp only); omega) dX6_join_22
end

/-! LeastPatterns$State.registersHeld()I -/
def f_X4_registersHeld_28 (F : Nat) (K : zK) (I : zI) (R : zR) (a0 : Nat) (k4 : Int32 → Int32 → Option (Int32)) (x1 : Int32) (x2 : Int32) : Option (Int32) :=
  k4 x1 (x2 + (1 : Int32))
def g_X4_registersHeld_4 (F : Nat) (K : zK) (I : zI) (R : zR) (a0 : Nat)  (kself : Int32 → Int32 → Option (Int32)) (x1 : Int32) (x2 : Int32) : Option (Int32) :=
  zbd (some (R a0 0)) fun o1 =>
  zbd (zdr K o1 4) fun a2 =>
  if (zln K a2) ≤ x2 then
    some x1
  else
    zbd (some (R a0 0)) fun o6 =>
    zbd (zdr K o6 4) fun a7 =>
    zbd (zrdR K R a7 x2) fun o10 =>
    zcs o10 (
      f_X4_registersHeld_28 F K I R a0 kself x1 x2
    ) fun a11 =>
      zbd (some (x1 ||| ((1 : Int32) <<< (x2 &&& 31)))) fun v13 =>
      f_X4_registersHeld_28 F K I R a0 kself v13 x2
def f_X4_registersHeld_4 (F : Nat) (K : zK) (I : zI) (R : zR) (a0 : Nat)  : Nat → Int32 → Int32 → Option (Int32)
  | 0, _, _ => none
  | t + 1, x1, x2 => g_X4_registersHeld_4 F K I R a0  (f_X4_registersHeld_4 F K I R a0  t) x1 x2
def f_X4_registersHeld (F : Nat) (K : zK) (I : zI) (R : zR) (a0 : Nat)  : Option (Int32) :=
  f_X4_registersHeld_4 F K I R a0 F (0 : Int32) (0 : Int32)
section
variable {p : Program} {l : Launch} {e : Env} {s : State} {m : MethodId} {args : Array Value} {below : List Frame} {meth : Method} {c : Code} {D : zD} {B n n0 n' fd ld : Nat} {K K0 K' : zK} {I I' : zI} {R R' : zR} {H : Heap} {locs : List Loc} {ls : Array Slot} {r : Int32}
set_option maxRecDepth 100000 in
set_option maxHeartbeats 4000000 in
theorem w_X4_registersHeld_28 {F : Nat} {a0 : Nat} {k4 : Int32 → Int32 → Option (Int32)} (X : zX p s m c cX4_registersHeld 3 RX4 D) (hr : meth.sig.returnType = some .int) (hlk : meth.locks = false) (hK0 : (K a0).1 = 14) (hk4 : ∀ (x1 : Int32) (x2 : Int32) (H : Heap) (locs : List Loc) (ls : Array Slot), k4 x1 x2 = some r → zS (zOwn B K (B + n)) D B n K I R s.heap H locs → lv_has ls 3 [(0, .ref (B + a0)), (1, .int x1), (2, .int x2)] → W p l e ({ frames := 1, cells := 0, slots := 0, locals := 40 } : Room) s m args below meth c H locs 0 0 (MQ below (zQi D (zOwn B K (B + n)) r B n K I R) args s 0 0 (zOwn B K (B + n))) (F0 m 4 ls [])) {x1 : Int32} {x2 : Int32} (hf : f_X4_registersHeld_28 F K I R a0 k4 x1 x2 = some r) (hW : zS (zOwn B K (B + n)) D B n K I R s.heap H locs) (hl : lv_has ls 3 [(0, .ref (B + a0)), (1, .int x1), (2, .int x2)]) : W p l e ({ frames := 1, cells := 0, slots := 0, locals := 40 } : Room) s m args below meth c H locs 0 0 (MQ below (zQi D (zOwn B K (B + n)) r B n K I R) args s 0 0 (zOwn B K (B + n))) (F0 m 28 ls []) := by
  unfold f_X4_registersHeld_28 at hf
  refine ze_iinc (lv' := [(2, .int (x2 + (1 : Int32))), (0, .ref (B + a0)), (1, .int x1)]) (d := 1) X.1 X.2.1 dX4_registersHeld_28 hl (k := 2) rfl (by decide) (by decide) rfl (fun ls hk => ?_)
  replace hl := hk
  refine lv_goto (tgt := 4) X.1 X.2.1 dX4_registersHeld_31 (by decide) ?_
  exact hk4 _ _ _ _ _ hf hW (lv_sub hl [1, 2, 0] rfl)
set_option maxRecDepth 100000 in
set_option maxHeartbeats 4000000 in
theorem wg_X4_registersHeld_4 {F : Nat} {a0 : Nat}  (X : zX p s m c cX4_registersHeld 3 RX4 D) (hr : meth.sig.returnType = some .int) (hlk : meth.locks = false) (hK0 : (K a0).1 = 14)  {kself : Int32 → Int32 → Option (Int32)} (hkself : ∀ (x1 : Int32) (x2 : Int32) (H : Heap) (locs : List Loc) (ls : Array Slot), kself x1 x2 = some r → zS (zOwn B K (B + n)) D B n K I R s.heap H locs → lv_has ls 3 [(0, .ref (B + a0)), (1, .int x1), (2, .int x2)] → W p l e ({ frames := 1, cells := 0, slots := 0, locals := 40 } : Room) s m args below meth c H locs 0 0 (MQ below (zQi D (zOwn B K (B + n)) r B n K I R) args s 0 0 (zOwn B K (B + n))) (F0 m 4 ls [])) {x1 : Int32} {x2 : Int32} (hf : g_X4_registersHeld_4 F K I R a0  kself x1 x2 = some r) (hW : zS (zOwn B K (B + n)) D B n K I R s.heap H locs) (hl : lv_has ls 3 [(0, .ref (B + a0)), (1, .int x1), (2, .int x2)]) : W p l e ({ frames := 1, cells := 0, slots := 0, locals := 40 } : Room) s m args below meth c H locs 0 0 (MQ below (zQi D (zOwn B K (B + n)) r B n K I R) args s 0 0 (zOwn B K (B + n))) (F0 m 4 ls []) := by
  unfold g_X4_registersHeld_4 at hf
  refine lv_iload_n X.1 X.2.1 dX4_registersHeld_4 rfl (lv_at hl 2 rfl) ?_
  refine lv_aload_n X.1 X.2.1 dX4_registersHeld_5 rfl (lv_at hl 0 rfl) ?_
  refine ze_gtR X 4 0 11 (RX4, TX4, 2) rfl hf hW hK0 rfl (by decide) kfl_X4_11 dX4_registersHeld_6 (fun o1 hg => ?_)
  replace hf := hg
  obtain ⟨a2, rfl, k4, hg⟩ := zh_dr hf
  replace hf := hg
  refine ze_alen X 4 (by decide) hW k4 dX4_registersHeld_9 ?_
  refine lv_icmp_ge (tgt := 34) X.1 X.2.1 dX4_registersHeld_10 (by decide) (fun c5 => ?_) (fun c5 => ?_)
  · replace hf := zif_pos c5 hf
    refine lv_iload_n X.1 X.2.1 dX4_registersHeld_34 rfl (lv_at hl 1 rfl) ?_
    obtain rfl := zi1 hf
    exact ze_retI X hr hlk hW (Nat.le_refl _) (Nat.le_refl _) dX4_registersHeld_35
  · replace hf := zif_neg c5 hf
    refine lv_aload_n X.1 X.2.1 dX4_registersHeld_13 rfl (lv_at hl 0 rfl) ?_
    refine ze_gtR X 4 0 11 (RX4, TX4, 2) rfl hf hW hK0 rfl (by decide) kfl_X4_11 dX4_registersHeld_14 (fun o6 hg => ?_)
    replace hf := hg
    refine lv_iload_n X.1 X.2.1 dX4_registersHeld_17 rfl (lv_at hl 2 rfl) ?_
    obtain ⟨a7, rfl, k9, hg⟩ := zh_dr hf
    replace hf := hg
    refine ze_aald X 4 (by decide) hf hW k9 dX4_registersHeld_18 (fun o10 hg => ?_)
    replace hf := hg
    refine ze_ifnull (tgt := 28) X.1 X.2.1 dX4_registersHeld_19 (by decide) (fun c12 => ?_) (fun a11 c12 => ?_)
    · replace hf := zcs_none c12 hf
      subst c12
      exact w_X4_registersHeld_28 X hr hlk hK0 hkself hf hW hl
    · replace hf := zcs_some c12 hf
      subst c12
      refine lv_iload_n X.1 X.2.1 dX4_registersHeld_22 rfl (lv_at hl 1 rfl) ?_
      refine lv_iconst (v := 1) X.1 X.2.1 dX4_registersHeld_23 (by decide) ?_
      refine lv_iload_n X.1 X.2.1 dX4_registersHeld_24 rfl (lv_at hl 2 rfl) ?_
      refine lv_ishl X.1 X.2.1 dX4_registersHeld_25 ?_
      refine lv_ior X.1 X.2.1 dX4_registersHeld_26 ?_
      refine ze_nm hf (fun v13 hg => ?_)
      replace hf := hg
      refine lv_istore_n (i := 1) (lv' := [(1, .int v13), (0, .ref (B + a0)), (2, .int x2)]) X.1 X.2.1 dX4_registersHeld_27 rfl hl (by decide) rfl (fun ls hk => ?_)
      replace hl := hk
      exact w_X4_registersHeld_28 X hr hlk hK0 hkself hf hW (lv_sub hl [1, 0, 2] rfl)
set_option maxRecDepth 100000 in
set_option maxHeartbeats 4000000 in
theorem w_X4_registersHeld_4 {F : Nat} {a0 : Nat}  (X : zX p s m c cX4_registersHeld 3 RX4 D) (hr : meth.sig.returnType = some .int) (hlk : meth.locks = false) (hK0 : (K a0).1 = 14)  {t : Nat} {x1 : Int32} {x2 : Int32} (hf : f_X4_registersHeld_4 F K I R a0  t x1 x2 = some r) (hW : zS (zOwn B K (B + n)) D B n K I R s.heap H locs) (hl : lv_has ls 3 [(0, .ref (B + a0)), (1, .int x1), (2, .int x2)]) : W p l e ({ frames := 1, cells := 0, slots := 0, locals := 40 } : Room) s m args below meth c H locs 0 0 (MQ below (zQi D (zOwn B K (B + n)) r B n K I R) args s 0 0 (zOwn B K (B + n))) (F0 m 4 ls []) := by
  have key : ∀ t : Nat, ∀ (x1 : Int32) (x2 : Int32) (H : Heap) (locs : List Loc) (ls : Array Slot), f_X4_registersHeld_4 F K I R a0  t x1 x2 = some r → zS (zOwn B K (B + n)) D B n K I R s.heap H locs → lv_has ls 3 [(0, .ref (B + a0)), (1, .int x1), (2, .int x2)] → W p l e ({ frames := 1, cells := 0, slots := 0, locals := 40 } : Room) s m args below meth c H locs 0 0 (MQ below (zQi D (zOwn B K (B + n)) r B n K I R) args s 0 0 (zOwn B K (B + n))) (F0 m 4 ls []) := by
    intro t
    induction t with
    | zero =>
      intro x1 x2 H locs ls hf hW hl
      cases hf
    | succ t ih =>
      intro x1 x2 H locs ls hf hW hl
      exact wg_X4_registersHeld_4 X hr hlk hK0  ih hf hW hl
  exact key t _ _ _ _ _ hf hW hl
set_option maxRecDepth 100000 in
set_option maxHeartbeats 4000000 in
theorem c_X4_registersHeld (l : Launch) (D : zD) (B n : Nat) {F : Nat} {K : zK} {I : zI} {R : zR} {a0 : Nat}  {r : Int32} (hK0 : (K a0).1 = 14) (hf : f_X4_registersHeld F K I R a0  = some r) : zM l yX4_registersHeld cX4_registersHeld 3 (some .int) ({ frames := 1, cells := 0, slots := 0, locals := 40 } : Room) D B n K I R [.ref (B + a0)] (zQi D (zOwn B K (B + n)) r B n K I R) := by
  refine ze_entry (lv0 := [(0, .ref (B + a0))]) (by decide) (by simp [lg_sl, zcat, zcat_i, zcat_r, zcat_l]) (by simp [lv_args, zcat, zcat_i, zcat_r, zcat_l]) (fun p e s m below meth c X hr hlk hin hW ls hl => ?_)
  unfold f_X4_registersHeld at hf
  refine lv_iconst (v := 0) X.1 X.2.1 dX4_registersHeld_0 (by decide) ?_
  refine lv_istore_n (i := 1) (lv' := [(1, .int (0 : Int32)), (0, .ref (B + a0))]) X.1 X.2.1 dX4_registersHeld_1 rfl hl (by decide) rfl (fun ls hk => ?_)
  replace hl := hk
  refine lv_iconst (v := 0) X.1 X.2.1 dX4_registersHeld_2 (by decide) ?_
  refine lv_istore_n (i := 2) (lv' := [(2, .int (0 : Int32)), (1, .int (0 : Int32)), (0, .ref (B + a0))]) X.1 X.2.1 dX4_registersHeld_3 rfl hl (by decide) rfl (fun ls hk => ?_)
  replace hl := hk
  exact w_X4_registersHeld_4 X hr hlk hK0 hf hW (lv_sub hl [2, 1, 0] rfl)
end

/-! LeastPatterns.joinAll(II)I -/
def f_X6_joinAll_123 (F : Nat) (a0 : Nat) (k49 : Nat → Nat → zK → zI → zR → Int32 → Int32 → Option Nat → Int32 → Option (Int32 × Nat × zK × zI × zR)) (z : Nat) (n : Nat) (K : zK) (I : zI) (R : zR) (x1 : Int32) (x2 : Int32) (x3 : Option Nat) (x4 : Int32) : Option (Int32 × Nat × zK × zI × zR) :=
  k49 z n K I R x1 x2 x3 (x4 + (1 : Int32))
def g_X6_joinAll_49 (F : Nat) (a0 : Nat)  (kself : Nat → Nat → zK → zI → zR → Int32 → Int32 → Option Nat → Int32 → Option (Int32 × Nat × zK × zI × zR)) (z : Nat) (n : Nat) (K : zK) (I : zI) (R : zR) (x1 : Int32) (x2 : Int32) (x3 : Option Nat) (x4 : Int32) : Option (Int32 × Nat × zK × zI × zR) :=
  match z with
  | 0 => none
  | z + 1 =>
    if (8 : Int32) ≤ x4 then
      if (K a0).1 = 16 then
      zbd3 (f_X6_keep F K I R a0 x3 x2) fun v3 I4 R5 =>
      some (v3, n, K, I4, R5)
      else none
    else
      if (K a0).1 = 16 then
      zbd (some (R a0 3)) fun o8 =>
      zbd (zdr K o8 14) fun a9 =>
      zbd (f_X4_term F K I R a9 x4) fun o12 =>
      if ((x1 >>> (x4 &&& 31)) &&& (1 : Int32)) = (0 : Int32) then
        f_X6_joinAll_123 F a0 kself z n K I R x1 x2 x3 x4
      else
        zcs o12 (
          f_X6_joinAll_123 F a0 kself z n K I R x1 x2 x3 x4
        ) fun a15 =>
          zcs x3 (
            f_X6_joinAll_123 F a0 kself z n K I R x1 x2 (some a15) x4
          ) fun a17 =>
            zbd (some (R a0 8)) fun o19 =>
            zbd (some (R a0 3)) fun o20 =>
            zbd (zdr K o19 10) fun a21 =>
            zbd (f_X0_begin F K I R a21 o20) fun I24 =>
            zbd (some (R a0 8)) fun o26 =>
            zbd (zdr K o26 10) fun a27 =>
            zbd5 (f_X0_joined F n K I24 R a27 (some a17) (some a15)) fun o30 n31 K32 I33 R34 =>
            zcs o30 (
              some ((-3 : Int32), n31, K32, I33, R34)
            ) fun a36 =>
              f_X6_joinAll_123 F a0 kself z n31 K32 I33 R34 x1 x2 (some a36) x4
      else none
def f_X6_joinAll_49 (F : Nat) (a0 : Nat)  : Nat → Nat → Nat → zK → zI → zR → Int32 → Int32 → Option Nat → Int32 → Option (Int32 × Nat × zK × zI × zR)
  | 0, _, _, _, _, _, _, _, _, _ => none
  | t + 1, z, n, K, I, R, x1, x2, x3, x4 => g_X6_joinAll_49 F a0  (f_X6_joinAll_49 F a0  t) z n K I R x1 x2 x3 x4
def f_X6_joinAll (F : Nat) (n : Nat) (K : zK) (I : zI) (R : zR) (a0 : Nat) (x1 : Int32) (x2 : Int32) : Option (Int32 × Nat × zK × zI × zR) :=
  zbd (f_X6_outside F K I R x1 (255 : Int32)) fun v38 =>
  if v38 = (0 : Int32) then
    zbd (f_X6_noRegister F K I R x2) fun v41 =>
    if v41 = (0 : Int32) then
      zbd (f_J6_bitCount_0f7a4 F K I R x1) fun v44 =>
      if v44 < (2 : Int32) then
        some ((-2 : Int32), n, K, I, R)
      else
        if (K a0).1 = 16 then
        zbd (some (R a0 3)) fun o48 =>
        zbd (zdr K o48 14) fun a49 =>
        zbd (f_X4_registersHeld F K I R a49) fun v52 =>
        if (x1 &&& (v52 ^^^ (-1 : Int32))) = (0 : Int32) then
          f_X6_joinAll_49 F a0 F 9 n K I R x1 x2 none (0 : Int32)
        else
          some ((-2 : Int32), n, K, I, R)
        else none
    else
      some ((-1 : Int32), n, K, I, R)
  else
    some ((-1 : Int32), n, K, I, R)
section
variable {p : Program} {l : Launch} {e : Env} {s : State} {m : MethodId} {args : Array Value} {below : List Frame} {meth : Method} {c : Code} {D : zD} {B n n0 n' fd ld : Nat} {K K0 K' : zK} {I I' : zI} {R R' : zR} {H : Heap} {locs : List Loc} {ls : Array Slot} {r : Int32}
set_option maxRecDepth 100000 in
set_option maxHeartbeats 4000000 in
theorem w_X6_joinAll_123 {F : Nat} {a0 : Nat} {k49 : Nat → Nat → zK → zI → zR → Int32 → Int32 → Option Nat → Int32 → Option (Int32 × Nat × zK × zI × zR)} (X : zX p s m c cX6_joinAll 6 RX6 D) (hr : meth.sig.returnType = some .int) (hlk : meth.locks = false) (hk49 : ∀ (z : Nat) (n : Nat) (K : zK) (I : zI) (R : zR) (x1 : Int32) (x2 : Int32) (x3 : Option Nat) (x4 : Int32) (cells slots : Nat) (H : Heap) (locs : List Loc) (ls : Array Slot), k49 z n K I R x1 x2 x3 x4 = some (r, n', K', I', R') → cells + 0 + 4 * z ≤ 36 → slots + 0 + 100 * z ≤ 900 → zS (zOwn B K0 (B + n0)) D B n K I R s.heap H locs → lv_has ls 6 [(0, .ref (B + a0)), (1, .int x1), (2, .int x2), (3, zrf B x3), (4, .int x4)] → W p l e ({ frames := 82, cells := 36, slots := 900, locals := 4049 } : Room) s m args below meth c H locs cells slots (MQ below (zQi D (zOwn B K0 (B + n0)) r B n' K' I' R') args s 36 900 (zOwn B K0 (B + n0))) (F0 m 49 ls [])) {z : Nat} {x1 : Int32} {x2 : Int32} {x3 : Option Nat} {x4 : Int32} {cells slots : Nat} (hf : f_X6_joinAll_123 F a0 k49 z n K I R x1 x2 x3 x4 = some (r, n', K', I', R')) (b1 : cells + 0 + 4 * z ≤ 36) (b2 : slots + 0 + 100 * z ≤ 900) (hW : zS (zOwn B K0 (B + n0)) D B n K I R s.heap H locs) (hl : lv_has ls 6 [(0, .ref (B + a0)), (1, .int x1), (2, .int x2), (3, zrf B x3), (4, .int x4)]) : W p l e ({ frames := 82, cells := 36, slots := 900, locals := 4049 } : Room) s m args below meth c H locs cells slots (MQ below (zQi D (zOwn B K0 (B + n0)) r B n' K' I' R') args s 36 900 (zOwn B K0 (B + n0))) (F0 m 123 ls []) := by
  unfold f_X6_joinAll_123 at hf
  refine ze_iinc (lv' := [(4, .int (x4 + (1 : Int32))), (0, .ref (B + a0)), (1, .int x1), (2, .int x2), (3, zrf B x3)]) (d := 1) X.1 X.2.1 dX6_joinAll_123 hl (k := 4) rfl (by decide) (by decide) (by first | rfl | (simp [zcat, zcat_i, zcat_r, zcat_l, zrf_some]; done) | (simp [zcat, zcat_i, zcat_r, zcat_l, zrf_some]; decide)) (fun ls hk => ?_)
  replace hl := hk
  refine lv_goto (tgt := 49) X.1 X.2.1 dX6_joinAll_126 (by decide) ?_
  exact hk49 _ _ _ _ _ _ _ _ _ _ _ _ _ _ hf (by (try dsimp only); omega) (by (try dsimp only); omega) hW (lv_sub hl [1, 2, 3, 4, 0] rfl)
set_option maxRecDepth 100000 in
set_option maxHeartbeats 4000000 in
theorem wg_X6_joinAll_49 {F : Nat} {a0 : Nat}  (X : zX p s m c cX6_joinAll 6 RX6 D) (hr : meth.sig.returnType = some .int) (hlk : meth.locks = false)  {kself : Nat → Nat → zK → zI → zR → Int32 → Int32 → Option Nat → Int32 → Option (Int32 × Nat × zK × zI × zR)} (hkself : ∀ (z : Nat) (n : Nat) (K : zK) (I : zI) (R : zR) (x1 : Int32) (x2 : Int32) (x3 : Option Nat) (x4 : Int32) (cells slots : Nat) (H : Heap) (locs : List Loc) (ls : Array Slot), kself z n K I R x1 x2 x3 x4 = some (r, n', K', I', R') → cells + 0 + 4 * z ≤ 36 → slots + 0 + 100 * z ≤ 900 → zS (zOwn B K0 (B + n0)) D B n K I R s.heap H locs → lv_has ls 6 [(0, .ref (B + a0)), (1, .int x1), (2, .int x2), (3, zrf B x3), (4, .int x4)] → W p l e ({ frames := 82, cells := 36, slots := 900, locals := 4049 } : Room) s m args below meth c H locs cells slots (MQ below (zQi D (zOwn B K0 (B + n0)) r B n' K' I' R') args s 36 900 (zOwn B K0 (B + n0))) (F0 m 49 ls [])) {z : Nat} {x1 : Int32} {x2 : Int32} {x3 : Option Nat} {x4 : Int32} {cells slots : Nat} (hf : g_X6_joinAll_49 F a0  kself z n K I R x1 x2 x3 x4 = some (r, n', K', I', R')) (b1 : cells + 0 + 4 * z ≤ 36) (b2 : slots + 0 + 100 * z ≤ 900) (hW : zS (zOwn B K0 (B + n0)) D B n K I R s.heap H locs) (hl : lv_has ls 6 [(0, .ref (B + a0)), (1, .int x1), (2, .int x2), (3, zrf B x3), (4, .int x4)]) : W p l e ({ frames := 82, cells := 36, slots := 900, locals := 4049 } : Room) s m args below meth c H locs cells slots (MQ below (zQi D (zOwn B K0 (B + n0)) r B n' K' I' R') args s 36 900 (zOwn B K0 (B + n0))) (F0 m 49 ls []) := by
  unfold g_X6_joinAll_49 at hf
  cases z with
  | zero => cases hf
  | succ z =>
  refine lv_iload X.1 X.2.1 dX6_joinAll_49 (lv_at hl 4 rfl) ?_
  refine lv_bipush (v := 8) X.1 X.2.1 dX6_joinAll_51 (by decide) ?_
  refine lv_icmp_ge (tgt := 129) X.1 X.2.1 dX6_joinAll_53 (by decide) (fun c1 => ?_) (fun c1 => ?_)
  · replace hf := zif_pos c1 hf
    refine lv_aload_n X.1 X.2.1 dX6_joinAll_129 rfl (lv_at hl 0 rfl) ?_
    refine ze_aload_n X.1 X.2.1 dX6_joinAll_130 rfl (lv_at hl 3 rfl) ?_
    refine lv_iload_n X.1 X.2.1 dX6_joinAll_131 rfl (lv_at hl 2 rfl) ?_
    obtain ⟨k2, hg⟩ := zh_if hf
    replace hf := hg
    obtain ⟨v3, I4, R5, h6, hg⟩ := zh_bd3 hf
    replace hf := hg
    refine ze_aftI0 (ze_runV (As := [zrf B x3, .int x2]) (rest := []) X 6 156 (c_X6_keep l D B n k2 h6) vX6_keep kml_X6_156 hW k2 rfl rfl ⟨by decide, by decide⟩ rfl hl.1 rfl (Nat.le_of_ble_eq_true rfl) ⟨by show _ + 0 ≤ (36 : Nat); (try dsimp only); omega, by show _ + 0 ≤ (900 : Nat); (try dsimp only); omega⟩ dX6_joinAll_132) hW (fun H locs hV => ?_)
    replace hW := hV
    obtain ⟨rfl, rfl, rfl, rfl, rfl⟩ := zi5 hf
    exact ze_retI X hr hlk hW (by (try dsimp only); omega) (by (try dsimp only); omega) dX6_joinAll_135
  · replace hf := zif_neg c1 hf
    refine lv_aload_n X.1 X.2.1 dX6_joinAll_56 rfl (lv_at hl 0 rfl) ?_
    obtain ⟨k7, hg⟩ := zh_if hf
    replace hf := hg
    refine ze_gtR X 6 3 23 (RX6, TX6, 11) rfl hf hW k7 rfl (by decide) kfl_X6_23 dX6_joinAll_57 (fun o8 hg => ?_)
    replace hf := hg
    refine lv_iload X.1 X.2.1 dX6_joinAll_60 (lv_at hl 4 rfl) ?_
    obtain ⟨a9, rfl, k11, hg⟩ := zh_dr hf
    replace hf := hg
    obtain ⟨o12, h13, hg⟩ := zh_bd hf
    replace hf := hg
    refine ze_aftQ0 (ze_runV (As := [.int x4]) (rest := []) X 4 107 (c_X4_term l D B n k11 h13) vX4_term kml_X6_107 hW k11 rfl rfl ⟨by decide, by decide⟩ rfl hl.1 rfl (Nat.le_of_ble_eq_true rfl) ⟨by show _ + 0 ≤ (36 : Nat); (try dsimp only); omega, by show _ + 0 ≤ (900 : Nat); (try dsimp only); omega⟩ dX6_joinAll_62) hW (fun H locs hV => ?_)
    replace hW := hV
    refine ze_astore (lv' := [(5, zrf B o12), (0, .ref (B + a0)), (1, .int x1), (2, .int x2), (3, zrf B x3), (4, .int x4)]) X.1 X.2.1 dX6_joinAll_65 hl (by decide) rfl (fun ls hk => ?_)
    replace hl := hk
    refine lv_iload_n X.1 X.2.1 dX6_joinAll_67 rfl (lv_at hl 2 rfl) ?_
    refine lv_iload X.1 X.2.1 dX6_joinAll_68 (lv_at hl 5 rfl) ?_
    refine lv_ishr X.1 X.2.1 dX6_joinAll_70 ?_
    refine lv_iconst (v := 1) X.1 X.2.1 dX6_joinAll_71 (by decide) ?_
    refine lv_iand X.1 X.2.1 dX6_joinAll_72 ?_
    refine lv_if_eq (tgt := 123) X.1 X.2.1 dX6_joinAll_73 (by decide) (fun c14 => ?_) (fun c14 => ?_)
    · replace hf := zif_pos c14 hf
      exact w_X6_joinAll_123 X hr hlk hkself hf (by (try dsimp only); omega) (by (try dsimp only); omega) hW (lv_sub hl [1, 2, 3, 4, 5] rfl)
    · replace hf := zif_neg c14 hf
      refine ze_aload X.1 X.2.1 dX6_joinAll_76 (lv_at hl 0 rfl) ?_
      refine ze_ifnonnull (tgt := 84) X.1 X.2.1 dX6_joinAll_78 (by decide) (fun a15 c16 => ?_) (fun c16 => ?_)
      · replace hf := zcs_some c16 hf
        subst c16
        refine ze_aload_n X.1 X.2.1 dX6_joinAll_84 rfl (lv_at hl 4 rfl) ?_
        refine ze_ifnonnull (tgt := 94) X.1 X.2.1 dX6_joinAll_85 (by decide) (fun a17 c18 => ?_) (fun c18 => ?_)
        · replace hf := zcs_some c18 hf
          subst c18
          refine lv_aload_n X.1 X.2.1 dX6_joinAll_94 rfl (lv_at hl 1 rfl) ?_
          refine ze_gtR X 6 8 51 (RX6, TX6, 11) rfl hf hW k7 rfl (by decide) kfl_X6_51 dX6_joinAll_95 (fun o19 hg => ?_)
          replace hf := hg
          refine lv_aload_n X.1 X.2.1 dX6_joinAll_98 rfl (lv_at hl 1 rfl) ?_
          refine ze_gtR X 6 3 23 (RX6, TX6, 11) rfl hf hW k7 rfl (by decide) kfl_X6_23 dX6_joinAll_99 (fun o20 hg => ?_)
          replace hf := hg
          obtain ⟨a21, rfl, k23, hg⟩ := zh_dr hf
          replace hf := hg
          obtain ⟨I24, h25, hg⟩ := zh_bd hf
          replace hf := hg
          refine ze_aftV0 (ze_runV (As := [zrf B o20]) (rest := []) X 0 148 (c_X0_begin l D B n k23 h25) vX0_begin kml_X6_148 hW k23 rfl rfl ⟨by decide, by decide⟩ rfl hl.1 rfl (Nat.le_of_ble_eq_true rfl) ⟨by show _ + 0 ≤ (36 : Nat); (try dsimp only); omega, by show _ + 0 ≤ (900 : Nat); (try dsimp only); omega⟩ dX6_joinAll_102) hW (fun H locs hV => ?_)
          replace hW := hV
          refine lv_aload_n X.1 X.2.1 dX6_joinAll_105 rfl (lv_at hl 1 rfl) ?_
          refine ze_gtR X 6 8 51 (RX6, TX6, 11) rfl hf hW k7 rfl (by decide) kfl_X6_51 dX6_joinAll_106 (fun o26 hg => ?_)
          replace hf := hg
          refine lv_aload_n X.1 X.2.1 dX6_joinAll_109 rfl (lv_at hl 4 rfl) ?_
          refine lv_aload X.1 X.2.1 dX6_joinAll_110 (lv_at hl 0 rfl) ?_
          obtain ⟨a27, rfl, k29, hg⟩ := zh_dr hf
          replace hf := hg
          obtain ⟨o30, n31, K32, I33, R34, h35, hg⟩ := zh_bd5 hf
          replace hf := hg
          refine ze_aftQ (ze_runV (As := [.ref (B + a17), .ref (B + a15)]) (rest := []) X 0 152 (c_X0_joined l D B n h35) vX0_joined kml_X6_152 hW k29 rfl rfl ⟨by decide, by decide⟩ rfl hl.1 rfl (Nat.le_of_ble_eq_true rfl) ⟨by show _ + 4 ≤ (36 : Nat); (try dsimp only); omega, by show _ + 100 ≤ (900 : Nat); (try dsimp only); omega⟩ dX6_joinAll_112) hW (fun H locs hV => ?_)
          replace hW := hV
          refine ze_astore_n (i := 3) (lv' := [(3, zrf B o30), (5, .ref (B + a15)), (0, .ref (B + a0)), (1, .int x1), (2, .int x2), (4, .int x4)]) X.1 X.2.1 dX6_joinAll_115 rfl hl (by decide) rfl (fun ls hk => ?_)
          replace hl := hk
          refine ze_aload_n X.1 X.2.1 dX6_joinAll_116 rfl (lv_at hl 0 rfl) ?_
          refine ze_ifnonnull (tgt := 123) X.1 X.2.1 dX6_joinAll_117 (by decide) (fun a36 c37 => ?_) (fun c37 => ?_)
          · replace hf := zcs_some c37 hf
            subst c37
            exact w_X6_joinAll_123 X hr hlk hkself hf (by (try dsimp only); omega) (by (try dsimp only); omega) hW (lv_sub hl [2, 3, 4, 0, 5] rfl)
          · replace hf := zcs_none c37 hf
            subst c37
            refine lv_bipush (v := -3) X.1 X.2.1 dX6_joinAll_120 (by decide) ?_
            obtain ⟨rfl, rfl, rfl, rfl, rfl⟩ := zi5 hf
            exact ze_retI X hr hlk hW (by (try dsimp only); omega) (by (try dsimp only); omega) dX6_joinAll_122
        · replace hf := zcs_none c18 hf
          subst c18
          refine lv_aload X.1 X.2.1 dX6_joinAll_88 (lv_at hl 0 rfl) ?_
          refine lv_astore_n (i := 3) (lv' := [(3, .ref (B + a15)), (5, .ref (B + a15)), (0, .ref (B + a0)), (1, .int x1), (2, .int x2), (4, .int x4)]) X.1 X.2.1 dX6_joinAll_90 rfl hl (by decide) rfl (fun ls hk => ?_)
          replace hl := hk
          refine lv_goto (tgt := 123) X.1 X.2.1 dX6_joinAll_91 (by decide) ?_
          exact w_X6_joinAll_123 X hr hlk hkself hf (by (try dsimp only); omega) (by (try dsimp only); omega) hW (lv_sub hl [2, 3, 4, 0, 5] rfl)
      · replace hf := zcs_none c16 hf
        subst c16
        refine lv_goto (tgt := 123) X.1 X.2.1 dX6_joinAll_81 (by decide) ?_
        exact w_X6_joinAll_123 X hr hlk hkself hf (by (try dsimp only); omega) (by (try dsimp only); omega) hW (lv_sub hl [1, 2, 3, 4, 5] rfl)
set_option maxRecDepth 100000 in
set_option maxHeartbeats 4000000 in
theorem w_X6_joinAll_49 {F : Nat} {a0 : Nat}  (X : zX p s m c cX6_joinAll 6 RX6 D) (hr : meth.sig.returnType = some .int) (hlk : meth.locks = false)  {t : Nat} {z : Nat} {x1 : Int32} {x2 : Int32} {x3 : Option Nat} {x4 : Int32} {cells slots : Nat} (hf : f_X6_joinAll_49 F a0  t z n K I R x1 x2 x3 x4 = some (r, n', K', I', R')) (b1 : cells + 0 + 4 * z ≤ 36) (b2 : slots + 0 + 100 * z ≤ 900) (hW : zS (zOwn B K0 (B + n0)) D B n K I R s.heap H locs) (hl : lv_has ls 6 [(0, .ref (B + a0)), (1, .int x1), (2, .int x2), (3, zrf B x3), (4, .int x4)]) : W p l e ({ frames := 82, cells := 36, slots := 900, locals := 4049 } : Room) s m args below meth c H locs cells slots (MQ below (zQi D (zOwn B K0 (B + n0)) r B n' K' I' R') args s 36 900 (zOwn B K0 (B + n0))) (F0 m 49 ls []) := by
  have key : ∀ t : Nat, ∀ (z : Nat) (n : Nat) (K : zK) (I : zI) (R : zR) (x1 : Int32) (x2 : Int32) (x3 : Option Nat) (x4 : Int32) (cells slots : Nat) (H : Heap) (locs : List Loc) (ls : Array Slot), f_X6_joinAll_49 F a0  t z n K I R x1 x2 x3 x4 = some (r, n', K', I', R') → cells + 0 + 4 * z ≤ 36 → slots + 0 + 100 * z ≤ 900 → zS (zOwn B K0 (B + n0)) D B n K I R s.heap H locs → lv_has ls 6 [(0, .ref (B + a0)), (1, .int x1), (2, .int x2), (3, zrf B x3), (4, .int x4)] → W p l e ({ frames := 82, cells := 36, slots := 900, locals := 4049 } : Room) s m args below meth c H locs cells slots (MQ below (zQi D (zOwn B K0 (B + n0)) r B n' K' I' R') args s 36 900 (zOwn B K0 (B + n0))) (F0 m 49 ls []) := by
    intro t
    induction t with
    | zero =>
      intro z n K I R x1 x2 x3 x4 cells slots H locs ls hf b1 b2 hW hl
      cases hf
    | succ t ih =>
      intro z n K I R x1 x2 x3 x4 cells slots H locs ls hf b1 b2 hW hl
      exact wg_X6_joinAll_49 X hr hlk  ih hf b1 b2 hW hl
  exact key t _ _ _ _ _ _ _ _ _ _ _ _ _ _ hf b1 b2 hW hl
set_option maxRecDepth 100000 in
set_option maxHeartbeats 4000000 in
theorem c_X6_joinAll (l : Launch) (D : zD) (B n : Nat) {F : Nat} {K : zK} {I : zI} {R : zR} {a0 : Nat} {x1 : Int32} {x2 : Int32} {r : Int32} {n' : Nat} {K' : zK} {I' : zI} {R' : zR} (hf : f_X6_joinAll F n K I R a0 x1 x2 = some (r, n', K', I', R')) : zM l yX6_joinAll cX6_joinAll 6 (some .int) ({ frames := 82, cells := 36, slots := 900, locals := 4049 } : Room) D B n K I R [.ref (B + a0), .int x1, .int x2] (zQi D (zOwn B K (B + n)) r B n' K' I' R') := by
  refine ze_entry (lv0 := [(0, .ref (B + a0)), (1, .int x1), (2, .int x2)]) (by decide) (by simp [lg_sl, zcat, zcat_i, zcat_r, zcat_l]) (by simp [lv_args, zcat, zcat_i, zcat_r, zcat_l]) (fun p e s m below meth c X hr hlk hin hW ls hl => ?_)
  unfold f_X6_joinAll at hf
  have b1 : (0 : Nat) ≤ 0 := Nat.le_refl _
  refine lv_iload_n X.1 X.2.1 dX6_joinAll_0 rfl (lv_at hl 1 rfl) ?_
  refine lv_sipush (v := 255) X.1 X.2.1 dX6_joinAll_1 (by decide) ?_
  obtain ⟨v38, h39, hg⟩ := zh_bd hf
  replace hf := hg
  refine ze_aftI0 (ze_runS (As := [.int x1, .int (255 : Int32)]) (rest := []) X 65 (c_X6_outside l D B n h39) vX6_outside kml_X6_65 hW ⟨by decide, by decide⟩ rfl hl.1 rfl (Nat.le_of_ble_eq_true rfl) ⟨by show _ + 0 ≤ (36 : Nat); (try dsimp only); omega, by show _ + 0 ≤ (900 : Nat); (try dsimp only); omega⟩ dX6_joinAll_4) hW (fun H locs hV => ?_)
  replace hW := hV
  refine lv_if_ne (tgt := 17) X.1 X.2.1 dX6_joinAll_7 (by decide) (fun c40 => ?_) (fun c40 => ?_)
  · replace hf := zif_neg c40 hf
    refine lv_iconst (v := -1) X.1 X.2.1 dX6_joinAll_17 (by decide) ?_
    obtain ⟨rfl, rfl, rfl, rfl, rfl⟩ := zi5 hf
    exact ze_retI X hr hlk hW (by (try dsimp only); omega) (by (try dsimp only); omega) dX6_joinAll_18
  · replace hf := zif_pos c40 hf
    refine lv_iload_n X.1 X.2.1 dX6_joinAll_10 rfl (lv_at hl 2 rfl) ?_
    obtain ⟨v41, h42, hg⟩ := zh_bd hf
    replace hf := hg
    refine ze_aftI0 (ze_runS (As := [.int x2]) (rest := []) X 69 (c_X6_noRegister l D B n h42) vX6_noRegister kml_X6_69 hW ⟨by decide, by decide⟩ rfl hl.1 rfl (Nat.le_of_ble_eq_true rfl) ⟨by show _ + 0 ≤ (36 : Nat); (try dsimp only); omega, by show _ + 0 ≤ (900 : Nat); (try dsimp only); omega⟩ dX6_joinAll_11) hW (fun H locs hV => ?_)
    replace hW := hV
    refine lv_if_eq (tgt := 19) X.1 X.2.1 dX6_joinAll_14 (by decide) (fun c43 => ?_) (fun c43 => ?_)
    · replace hf := zif_pos c43 hf
      refine lv_iload_n X.1 X.2.1 dX6_joinAll_19 rfl (lv_at hl 1 rfl) ?_
      obtain ⟨v44, h45, hg⟩ := zh_bd hf
      replace hf := hg
      refine ze_aftI0 (ze_runS (As := [.int x1]) (rest := []) X 137 (c_J6_bitCount_0f7a4 l D B n h45) vJ6_bitCount_0f7a4 kml_X6_137 hW ⟨by decide, by decide⟩ rfl hl.1 rfl (Nat.le_of_ble_eq_true rfl) ⟨by show _ + 0 ≤ (36 : Nat); (try dsimp only); omega, by show _ + 0 ≤ (900 : Nat); (try dsimp only); omega⟩ dX6_joinAll_20) hW (fun H locs hV => ?_)
      replace hW := hV
      refine lv_iconst (v := 2) X.1 X.2.1 dX6_joinAll_23 (by decide) ?_
      refine lv_icmp_lt (tgt := 41) X.1 X.2.1 dX6_joinAll_24 (by decide) (fun c46 => ?_) (fun c46 => ?_)
      · replace hf := zif_pos c46 hf
        refine lv_bipush (v := -2) X.1 X.2.1 dX6_joinAll_41 (by decide) ?_
        obtain ⟨rfl, rfl, rfl, rfl, rfl⟩ := zi5 hf
        exact ze_retI X hr hlk hW (by (try dsimp only); omega) (by (try dsimp only); omega) dX6_joinAll_43
      · replace hf := zif_neg c46 hf
        refine lv_iload_n X.1 X.2.1 dX6_joinAll_27 rfl (lv_at hl 1 rfl) ?_
        refine lv_aload_n X.1 X.2.1 dX6_joinAll_28 rfl (lv_at hl 0 rfl) ?_
        obtain ⟨k47, hg⟩ := zh_if hf
        replace hf := hg
        refine ze_gtR X 6 3 23 (RX6, TX6, 11) rfl hf hW k47 rfl (by decide) kfl_X6_23 dX6_joinAll_29 (fun o48 hg => ?_)
        replace hf := hg
        obtain ⟨a49, rfl, k51, hg⟩ := zh_dr hf
        replace hf := hg
        obtain ⟨v52, h53, hg⟩ := zh_bd hf
        replace hf := hg
        refine ze_aftI0 (ze_runV (As := []) (rest := [.int x1]) X 4 160 (c_X4_registersHeld l D B n k51 h53) vX4_registersHeld kml_X6_160 hW k51 rfl rfl ⟨by decide, by decide⟩ rfl hl.1 rfl (Nat.le_of_ble_eq_true rfl) ⟨by show _ + 0 ≤ (36 : Nat); (try dsimp only); omega, by show _ + 0 ≤ (900 : Nat); (try dsimp only); omega⟩ dX6_joinAll_32) hW (fun H locs hV => ?_)
        replace hW := hV
        refine lv_iconst (v := -1) X.1 X.2.1 dX6_joinAll_35 (by decide) ?_
        refine lv_ixor X.1 X.2.1 dX6_joinAll_36 ?_
        refine lv_iand X.1 X.2.1 dX6_joinAll_37 ?_
        refine lv_if_eq (tgt := 44) X.1 X.2.1 dX6_joinAll_38 (by decide) (fun c54 => ?_) (fun c54 => ?_)
        · replace hf := zif_pos c54 hf
          refine lv_null X.1 X.2.1 dX6_joinAll_44 ?_
          refine lv_astore_nN (i := 3) (lv' := [(3, zrf B none), (0, .ref (B + a0)), (1, .int x1), (2, .int x2)]) X.1 X.2.1 dX6_joinAll_45 rfl hl (by decide) rfl (fun ls hk => ?_)
          replace hl := hk
          refine lv_iconst (v := 0) X.1 X.2.1 dX6_joinAll_46 (by decide) ?_
          refine lv_istore (lv' := [(4, .int (0 : Int32)), (3, zrf B none), (0, .ref (B + a0)), (1, .int x1), (2, .int x2)]) X.1 X.2.1 dX6_joinAll_47 hl (by decide) (by first | rfl | (simp [zcat, zcat_i, zcat_r, zcat_l, zrf_some]; done) | (simp [zcat, zcat_i, zcat_r, zcat_l, zrf_some]; decide)) (fun ls hk => ?_)
          replace hl := hk
          exact w_X6_joinAll_49 X hr hlk hf (by (try dsimp only); omega) (by (try dsimp only); omega) hW (lv_sub hl [2, 3, 4, 1, 0] rfl)
        · replace hf := zif_neg c54 hf
          refine lv_bipush (v := -2) X.1 X.2.1 dX6_joinAll_41 (by decide) ?_
          obtain ⟨rfl, rfl, rfl, rfl, rfl⟩ := zi5 hf
          exact ze_retI X hr hlk hW (by (try dsimp only); omega) (by (try dsimp only); omega) dX6_joinAll_43
    · replace hf := zif_neg c43 hf
      refine lv_iconst (v := -1) X.1 X.2.1 dX6_joinAll_17 (by decide) ?_
      obtain ⟨rfl, rfl, rfl, rfl, rfl⟩ := zi5 hf
      exact ze_retI X hr hlk hW (by (try dsimp only); omega) (by (try dsimp only); omega) dX6_joinAll_18
end

/-! LeastPatterns$Joiner.meaning(II)I -/
def f_X0_meaning (F : Nat) (K : zK) (I : zI) (R : zR) (a0 : Nat) (x1 : Int32) (x2 : Int32) : Option (Int32) :=
  zbd (f_X6_outside F K I R x1 (9 : Int32)) fun v1 =>
  if v1 = (0 : Int32) then
    if x1 < (I a0 5) then
      if x2 = 0 then
        zbd (some (R a0 9)) fun o5 =>
        zbd (zdr K o5 1) fun a6 =>
        zbd (zrd K I a6 x1) fun v9 =>
        if v9 = (0 : Int32) then
          some (-9 : Int32)
        else
          zbd (some (R a0 8)) fun o11 =>
          zbd (zdr K o11 1) fun a12 =>
          zbd (zrd K I a12 x1) fun v15 =>
          some v15
      else
      if x2 = 1 then
        zbd (some (R a0 9)) fun o17 =>
        zbd (zdr K o17 1) fun a18 =>
        zbd (zrd K I a18 x1) fun v21 =>
        some v21
      else
      if x2 = 2 then
        zbd (some (R a0 12)) fun o23 =>
        zbd (zdr K o23 1) fun a24 =>
        zbd (zrd K I a24 x1) fun v27 =>
        if v27 = (0 : Int32) then
          some (-9 : Int32)
        else
          zbd (some (R a0 11)) fun o29 =>
          zbd (zdr K o29 1) fun a30 =>
          zbd (zrd K I a30 x1) fun v33 =>
          some v33
      else
        zbd (some (R a0 12)) fun o35 =>
        zbd (zdr K o35 1) fun a36 =>
        zbd (zrd K I a36 x1) fun v39 =>
        some v39
    else
      some (-9 : Int32)
  else
    some (-9 : Int32)
section
variable {p : Program} {l : Launch} {e : Env} {s : State} {m : MethodId} {args : Array Value} {below : List Frame} {meth : Method} {c : Code} {D : zD} {B n n0 n' fd ld : Nat} {K K0 K' : zK} {I I' : zI} {R R' : zR} {H : Heap} {locs : List Loc} {ls : Array Slot} {r : Int32}
set_option maxRecDepth 100000 in
set_option maxHeartbeats 4000000 in
theorem c_X0_meaning (l : Launch) (D : zD) (B n : Nat) {F : Nat} {K : zK} {I : zI} {R : zR} {a0 : Nat} {x1 : Int32} {x2 : Int32} {r : Int32} (hK0 : (K a0).1 = 10) (hf : f_X0_meaning F K I R a0 x1 x2 = some r) : zM l yX0_meaning cX0_meaning 3 (some .int) ({ frames := 2, cells := 0, slots := 0, locals := 61 } : Room) D B n K I R [.ref (B + a0), .int x1, .int x2] (zQi D (zOwn B K (B + n)) r B n K I R) := by
  refine ze_entry (lv0 := [(0, .ref (B + a0)), (1, .int x1), (2, .int x2)]) (by decide) (by simp [lg_sl, zcat, zcat_i, zcat_r, zcat_l]) (by simp [lv_args, zcat, zcat_i, zcat_r, zcat_l]) (fun p e s m below meth c X hr hlk hin hW ls hl => ?_)
  unfold f_X0_meaning at hf
  refine lv_iload_n X.1 X.2.1 dX0_meaning_0 rfl (lv_at hl 1 rfl) ?_
  refine lv_bipush (v := 9) X.1 X.2.1 dX0_meaning_1 (by decide) ?_
  obtain ⟨v1, h2, hg⟩ := zh_bd hf
  replace hf := hg
  refine ze_aftI0 (ze_runSN (As := [.int x1, .int (9 : Int32)]) (rest := []) X 71 (c_X6_outside l D B n h2) vX6_outside kml_X0_71 hW ⟨by decide, by decide⟩ rfl hl.1 rfl (Nat.le_of_ble_eq_true rfl) ⟨Nat.le_refl _, Nat.le_refl _⟩ dX0_meaning_3) hW (fun H locs hV => ?_)
  replace hW := hV
  refine lv_if_ne (tgt := 17) X.1 X.2.1 dX0_meaning_6 (by decide) (fun c3 => ?_) (fun c3 => ?_)
  · replace hf := zif_neg c3 hf
    refine lv_bipush (v := -9) X.1 X.2.1 dX0_meaning_17 (by decide) ?_
    obtain rfl := zi1 hf
    exact ze_retI X hr hlk hW (Nat.le_refl _) (Nat.le_refl _) dX0_meaning_19
  · replace hf := zif_pos c3 hf
    refine lv_iload_n X.1 X.2.1 dX0_meaning_9 rfl (lv_at hl 1 rfl) ?_
    refine lv_aload_n X.1 X.2.1 dX0_meaning_10 rfl (lv_at hl 0 rfl) ?_
    refine ze_getI X 0 5 31 (RX0, TX0, 13) rfl hW hK0 rfl (by decide) kfl_X0_31 dX0_meaning_11 ?_
    refine lv_icmp_lt (tgt := 20) X.1 X.2.1 dX0_meaning_14 (by decide) (fun c4 => ?_) (fun c4 => ?_)
    · replace hf := zif_pos c4 hf
      refine lv_iload_n X.1 X.2.1 dX0_meaning_20 rfl (lv_at hl 2 rfl) ?_
      by_cases c16 : x2 = 0
      · replace hf := zif_pos c16 hf
        refine lv_tableIn (tgt := 48) X.1 X.2.1 dX0_meaning_21 (by rw [c16]; decide) (by rw [c16]; decide) (by rw [c16]; rfl) (by decide) ?_
        refine lv_aload_n X.1 X.2.1 dX0_meaning_48 rfl (lv_at hl 0 rfl) ?_
        refine ze_gtR X 0 9 46 (RX0, TX0, 13) rfl hf hW hK0 rfl (by decide) kfl_X0_46 dX0_meaning_49 (fun o5 hg => ?_)
        replace hf := hg
        refine lv_iload_n X.1 X.2.1 dX0_meaning_52 rfl (lv_at hl 1 rfl) ?_
        obtain ⟨a6, rfl, k8, hg⟩ := zh_dr hf
        replace hf := hg
        refine ze_iald X hf hW k8 dX0_meaning_53 (fun v9 hg => ?_)
        replace hf := hg
        refine lv_if_ne (tgt := 62) X.1 X.2.1 dX0_meaning_54 (by decide) (fun c10 => ?_) (fun c10 => ?_)
        · replace hf := zif_neg c10 hf
          refine lv_aload_n X.1 X.2.1 dX0_meaning_62 rfl (lv_at hl 0 rfl) ?_
          refine ze_gtR X 0 8 43 (RX0, TX0, 13) rfl hf hW hK0 rfl (by decide) kfl_X0_43 dX0_meaning_63 (fun o11 hg => ?_)
          replace hf := hg
          refine lv_iload_n X.1 X.2.1 dX0_meaning_66 rfl (lv_at hl 1 rfl) ?_
          obtain ⟨a12, rfl, k14, hg⟩ := zh_dr hf
          replace hf := hg
          refine ze_iald X hf hW k14 dX0_meaning_67 (fun v15 hg => ?_)
          replace hf := hg
          obtain rfl := zi1 hf
          exact ze_retI X hr hlk hW (Nat.le_refl _) (Nat.le_refl _) dX0_meaning_68
        · replace hf := zif_pos c10 hf
          refine lv_bipush (v := -9) X.1 X.2.1 dX0_meaning_57 (by decide) ?_
          refine lv_goto (tgt := 68) X.1 X.2.1 dX0_meaning_59 (by decide) ?_
          obtain rfl := zi1 hf
          exact ze_retI X hr hlk hW (Nat.le_refl _) (Nat.le_refl _) dX0_meaning_68
      replace hf := zif_neg c16 hf
      by_cases c22 : x2 = 1
      · replace hf := zif_pos c22 hf
        refine lv_tableIn (tgt := 69) X.1 X.2.1 dX0_meaning_21 (by rw [c22]; decide) (by rw [c22]; decide) (by rw [c22]; rfl) (by decide) ?_
        refine lv_aload_n X.1 X.2.1 dX0_meaning_69 rfl (lv_at hl 0 rfl) ?_
        refine ze_gtR X 0 9 46 (RX0, TX0, 13) rfl hf hW hK0 rfl (by decide) kfl_X0_46 dX0_meaning_70 (fun o17 hg => ?_)
        replace hf := hg
        refine lv_iload_n X.1 X.2.1 dX0_meaning_73 rfl (lv_at hl 1 rfl) ?_
        obtain ⟨a18, rfl, k20, hg⟩ := zh_dr hf
        replace hf := hg
        refine ze_iald X hf hW k20 dX0_meaning_74 (fun v21 hg => ?_)
        replace hf := hg
        obtain rfl := zi1 hf
        exact ze_retI X hr hlk hW (Nat.le_refl _) (Nat.le_refl _) dX0_meaning_75
      replace hf := zif_neg c22 hf
      by_cases c34 : x2 = 2
      · replace hf := zif_pos c34 hf
        refine lv_tableIn (tgt := 76) X.1 X.2.1 dX0_meaning_21 (by rw [c34]; decide) (by rw [c34]; decide) (by rw [c34]; rfl) (by decide) ?_
        refine lv_aload_n X.1 X.2.1 dX0_meaning_76 rfl (lv_at hl 0 rfl) ?_
        refine ze_gtR X 0 12 55 (RX0, TX0, 13) rfl hf hW hK0 rfl (by decide) kfl_X0_55 dX0_meaning_77 (fun o23 hg => ?_)
        replace hf := hg
        refine lv_iload_n X.1 X.2.1 dX0_meaning_80 rfl (lv_at hl 1 rfl) ?_
        obtain ⟨a24, rfl, k26, hg⟩ := zh_dr hf
        replace hf := hg
        refine ze_iald X hf hW k26 dX0_meaning_81 (fun v27 hg => ?_)
        replace hf := hg
        refine lv_if_ne (tgt := 90) X.1 X.2.1 dX0_meaning_82 (by decide) (fun c28 => ?_) (fun c28 => ?_)
        · replace hf := zif_neg c28 hf
          refine lv_aload_n X.1 X.2.1 dX0_meaning_90 rfl (lv_at hl 0 rfl) ?_
          refine ze_gtR X 0 11 52 (RX0, TX0, 13) rfl hf hW hK0 rfl (by decide) kfl_X0_52 dX0_meaning_91 (fun o29 hg => ?_)
          replace hf := hg
          refine lv_iload_n X.1 X.2.1 dX0_meaning_94 rfl (lv_at hl 1 rfl) ?_
          obtain ⟨a30, rfl, k32, hg⟩ := zh_dr hf
          replace hf := hg
          refine ze_iald X hf hW k32 dX0_meaning_95 (fun v33 hg => ?_)
          replace hf := hg
          obtain rfl := zi1 hf
          exact ze_retI X hr hlk hW (Nat.le_refl _) (Nat.le_refl _) dX0_meaning_96
        · replace hf := zif_pos c28 hf
          refine lv_bipush (v := -9) X.1 X.2.1 dX0_meaning_85 (by decide) ?_
          refine lv_goto (tgt := 96) X.1 X.2.1 dX0_meaning_87 (by decide) ?_
          obtain rfl := zi1 hf
          exact ze_retI X hr hlk hW (Nat.le_refl _) (Nat.le_refl _) dX0_meaning_96
      replace hf := zif_neg c34 hf
      refine lv_tableOut (tgt := 97) X.1 X.2.1 dX0_meaning_21 ?_ (by decide) ?_
      · have hne : ∀ k : Int32, ¬ x2 = k → x2.toInt ≠ k.toInt := fun k h q => h (Int32.toInt_inj.mp q)
        have qc16 := hne 0 c16
        have qc22 := hne 1 c22
        have qc34 := hne 2 c34
        simp at qc16 qc22 qc34
        omega
      · refine lv_aload_n X.1 X.2.1 dX0_meaning_97 rfl (lv_at hl 0 rfl) ?_
        refine ze_gtR X 0 12 55 (RX0, TX0, 13) rfl hf hW hK0 rfl (by decide) kfl_X0_55 dX0_meaning_98 (fun o35 hg => ?_)
        replace hf := hg
        refine lv_iload_n X.1 X.2.1 dX0_meaning_101 rfl (lv_at hl 1 rfl) ?_
        obtain ⟨a36, rfl, k38, hg⟩ := zh_dr hf
        replace hf := hg
        refine ze_iald X hf hW k38 dX0_meaning_102 (fun v39 hg => ?_)
        replace hf := hg
        obtain rfl := zi1 hf
        exact ze_retI X hr hlk hW (Nat.le_refl _) (Nat.le_refl _) dX0_meaning_103
    · replace hf := zif_neg c4 hf
      refine lv_bipush (v := -9) X.1 X.2.1 dX0_meaning_17 (by decide) ?_
      obtain rfl := zi1 hf
      exact ze_retI X hr hlk hW (Nat.le_refl _) (Nat.le_refl _) dX0_meaning_19
end

/-! LeastPatterns.origin(IIII)I -/
def f_X6_origin (F : Nat) (n : Nat) (K : zK) (I : zI) (R : zR) (a0 : Nat) (x1 : Int32) (x2 : Int32) (x3 : Int32) (x4 : Int32) : Option (Int32 × Nat × zK × zI × zR) :=
  zbd (f_X6_noRegister F K I R x1) fun v1 =>
  if v1 = (0 : Int32) then
    zbd (f_X6_noRegister F K I R x2) fun v4 =>
    if v4 = (0 : Int32) then
      zbd (f_X6_outside F K I R x3 (9 : Int32)) fun v7 =>
      if v7 = (0 : Int32) then
        zbd (f_X6_outside F K I R x4 (3 : Int32)) fun v10 =>
        if v10 = (0 : Int32) then
          if (K a0).1 = 16 then
          zbd (some (R a0 3)) fun o14 =>
          zbd (zdr K o14 14) fun a15 =>
          zbd (f_X4_term F K I R a15 x1) fun o18 =>
          zbd (some (R a0 3)) fun o20 =>
          zbd (zdr K o20 14) fun a21 =>
          zbd (f_X4_term F K I R a21 x2) fun o24 =>
          zcs o18 (
            some ((-2 : Int32), n, K, I, R)
          ) fun a26 =>
            zcs o24 (
              some ((-2 : Int32), n, K, I, R)
            ) fun a28 =>
              zbd (some (R a0 8)) fun o30 =>
              zbd (some (R a0 3)) fun o31 =>
              zbd (zdr K o30 10) fun a32 =>
              zbd (f_X0_begin F K I R a32 o31) fun I35 =>
              zbd (some (R a0 8)) fun o37 =>
              zbd (zdr K o37 10) fun a38 =>
              zbd5 (f_X0_joined F n K I35 R a38 (some a26) (some a28)) fun o41 n42 K43 I44 R45 =>
              zcs o41 (
                some ((-3 : Int32), n42, K43, I44, R45)
              ) fun a47 =>
                if (K43 a0).1 = 16 then
                zbd (some (R45 a0 8)) fun o50 =>
                zbd (zdr K43 o50 10) fun a51 =>
                zbd (f_X0_meaning F K43 I44 R45 a51 x3 x4) fun v54 =>
                some (v54, n42, K43, I44, R45)
                else none
          else none
        else
          some ((-1 : Int32), n, K, I, R)
      else
        some ((-1 : Int32), n, K, I, R)
    else
      some ((-1 : Int32), n, K, I, R)
  else
    some ((-1 : Int32), n, K, I, R)
section
variable {p : Program} {l : Launch} {e : Env} {s : State} {m : MethodId} {args : Array Value} {below : List Frame} {meth : Method} {c : Code} {D : zD} {B n n0 n' fd ld : Nat} {K K0 K' : zK} {I I' : zI} {R R' : zR} {H : Heap} {locs : List Loc} {ls : Array Slot} {r : Int32}
set_option maxRecDepth 100000 in
set_option maxHeartbeats 4000000 in
theorem c_X6_origin (l : Launch) (D : zD) (B n : Nat) {F : Nat} {K : zK} {I : zI} {R : zR} {a0 : Nat} {x1 : Int32} {x2 : Int32} {x3 : Int32} {x4 : Int32} {r : Int32} {n' : Nat} {K' : zK} {I' : zI} {R' : zR} (hf : f_X6_origin F n K I R a0 x1 x2 x3 x4 = some (r, n', K', I', R')) : zM l yX6_origin cX6_origin 7 (some .int) ({ frames := 82, cells := 4, slots := 100, locals := 4049 } : Room) D B n K I R [.ref (B + a0), .int x1, .int x2, .int x3, .int x4] (zQi D (zOwn B K (B + n)) r B n' K' I' R') := by
  refine ze_entry (lv0 := [(0, .ref (B + a0)), (1, .int x1), (2, .int x2), (3, .int x3), (4, .int x4)]) (by decide) (by simp [lg_sl, zcat, zcat_i, zcat_r, zcat_l]) (by simp [lv_args, zcat, zcat_i, zcat_r, zcat_l]) (fun p e s m below meth c X hr hlk hin hW ls hl => ?_)
  unfold f_X6_origin at hf
  have b1 : (0 : Nat) ≤ 0 := Nat.le_refl _
  refine lv_iload_n X.1 X.2.1 dX6_origin_0 rfl (lv_at hl 1 rfl) ?_
  obtain ⟨v1, h2, hg⟩ := zh_bd hf
  replace hf := hg
  refine ze_aftI0 (ze_runS (As := [.int x1]) (rest := []) X 69 (c_X6_noRegister l D B n h2) vX6_noRegister kml_X6_69 hW ⟨by decide, by decide⟩ rfl hl.1 rfl (Nat.le_of_ble_eq_true rfl) ⟨by show _ + 0 ≤ (4 : Nat); (try dsimp only); omega, by show _ + 0 ≤ (100 : Nat); (try dsimp only); omega⟩ dX6_origin_1) hW (fun H locs hV => ?_)
  replace hW := hV
  refine lv_if_ne (tgt := 32) X.1 X.2.1 dX6_origin_4 (by decide) (fun c3 => ?_) (fun c3 => ?_)
  · replace hf := zif_neg c3 hf
    refine lv_iconst (v := -1) X.1 X.2.1 dX6_origin_32 (by decide) ?_
    obtain ⟨rfl, rfl, rfl, rfl, rfl⟩ := zi5 hf
    exact ze_retI X hr hlk hW (by (try dsimp only); omega) (by (try dsimp only); omega) dX6_origin_33
  · replace hf := zif_pos c3 hf
    refine lv_iload_n X.1 X.2.1 dX6_origin_7 rfl (lv_at hl 2 rfl) ?_
    obtain ⟨v4, h5, hg⟩ := zh_bd hf
    replace hf := hg
    refine ze_aftI0 (ze_runS (As := [.int x2]) (rest := []) X 69 (c_X6_noRegister l D B n h5) vX6_noRegister kml_X6_69 hW ⟨by decide, by decide⟩ rfl hl.1 rfl (Nat.le_of_ble_eq_true rfl) ⟨by show _ + 0 ≤ (4 : Nat); (try dsimp only); omega, by show _ + 0 ≤ (100 : Nat); (try dsimp only); omega⟩ dX6_origin_8) hW (fun H locs hV => ?_)
    replace hW := hV
    refine lv_if_ne (tgt := 32) X.1 X.2.1 dX6_origin_11 (by decide) (fun c6 => ?_) (fun c6 => ?_)
    · replace hf := zif_neg c6 hf
      refine lv_iconst (v := -1) X.1 X.2.1 dX6_origin_32 (by decide) ?_
      obtain ⟨rfl, rfl, rfl, rfl, rfl⟩ := zi5 hf
      exact ze_retI X hr hlk hW (by (try dsimp only); omega) (by (try dsimp only); omega) dX6_origin_33
    · replace hf := zif_pos c6 hf
      refine lv_iload_n X.1 X.2.1 dX6_origin_14 rfl (lv_at hl 3 rfl) ?_
      refine lv_bipush (v := 9) X.1 X.2.1 dX6_origin_15 (by decide) ?_
      obtain ⟨v7, h8, hg⟩ := zh_bd hf
      replace hf := hg
      refine ze_aftI0 (ze_runS (As := [.int x3, .int (9 : Int32)]) (rest := []) X 65 (c_X6_outside l D B n h8) vX6_outside kml_X6_65 hW ⟨by decide, by decide⟩ rfl hl.1 rfl (Nat.le_of_ble_eq_true rfl) ⟨by show _ + 0 ≤ (4 : Nat); (try dsimp only); omega, by show _ + 0 ≤ (100 : Nat); (try dsimp only); omega⟩ dX6_origin_17) hW (fun H locs hV => ?_)
      replace hW := hV
      refine lv_if_ne (tgt := 32) X.1 X.2.1 dX6_origin_20 (by decide) (fun c9 => ?_) (fun c9 => ?_)
      · replace hf := zif_neg c9 hf
        refine lv_iconst (v := -1) X.1 X.2.1 dX6_origin_32 (by decide) ?_
        obtain ⟨rfl, rfl, rfl, rfl, rfl⟩ := zi5 hf
        exact ze_retI X hr hlk hW (by (try dsimp only); omega) (by (try dsimp only); omega) dX6_origin_33
      · replace hf := zif_pos c9 hf
        refine lv_iload X.1 X.2.1 dX6_origin_23 (lv_at hl 4 rfl) ?_
        refine lv_iconst (v := 3) X.1 X.2.1 dX6_origin_25 (by decide) ?_
        obtain ⟨v10, h11, hg⟩ := zh_bd hf
        replace hf := hg
        refine ze_aftI0 (ze_runS (As := [.int x4, .int (3 : Int32)]) (rest := []) X 65 (c_X6_outside l D B n h11) vX6_outside kml_X6_65 hW ⟨by decide, by decide⟩ rfl hl.1 rfl (Nat.le_of_ble_eq_true rfl) ⟨by show _ + 0 ≤ (4 : Nat); (try dsimp only); omega, by show _ + 0 ≤ (100 : Nat); (try dsimp only); omega⟩ dX6_origin_26) hW (fun H locs hV => ?_)
        replace hW := hV
        refine lv_if_eq (tgt := 34) X.1 X.2.1 dX6_origin_29 (by decide) (fun c12 => ?_) (fun c12 => ?_)
        · replace hf := zif_pos c12 hf
          refine lv_aload_n X.1 X.2.1 dX6_origin_34 rfl (lv_at hl 0 rfl) ?_
          obtain ⟨k13, hg⟩ := zh_if hf
          replace hf := hg
          refine ze_gtR X 6 3 23 (RX6, TX6, 11) rfl hf hW k13 rfl (by decide) kfl_X6_23 dX6_origin_35 (fun o14 hg => ?_)
          replace hf := hg
          refine lv_iload_n X.1 X.2.1 dX6_origin_38 rfl (lv_at hl 1 rfl) ?_
          obtain ⟨a15, rfl, k17, hg⟩ := zh_dr hf
          replace hf := hg
          obtain ⟨o18, h19, hg⟩ := zh_bd hf
          replace hf := hg
          refine ze_aftQ0 (ze_runV (As := [.int x1]) (rest := []) X 4 107 (c_X4_term l D B n k17 h19) vX4_term kml_X6_107 hW k17 rfl rfl ⟨by decide, by decide⟩ rfl hl.1 rfl (Nat.le_of_ble_eq_true rfl) ⟨by show _ + 0 ≤ (4 : Nat); (try dsimp only); omega, by show _ + 0 ≤ (100 : Nat); (try dsimp only); omega⟩ dX6_origin_39) hW (fun H locs hV => ?_)
          replace hW := hV
          refine ze_astore (lv' := [(5, zrf B o18), (0, .ref (B + a0)), (1, .int x1), (2, .int x2), (3, .int x3), (4, .int x4)]) X.1 X.2.1 dX6_origin_42 hl (by decide) rfl (fun ls hk => ?_)
          replace hl := hk
          refine lv_aload_n X.1 X.2.1 dX6_origin_44 rfl (lv_at hl 1 rfl) ?_
          refine ze_gtR X 6 3 23 (RX6, TX6, 11) rfl hf hW k13 rfl (by decide) kfl_X6_23 dX6_origin_45 (fun o20 hg => ?_)
          replace hf := hg
          refine lv_iload_n X.1 X.2.1 dX6_origin_48 rfl (lv_at hl 3 rfl) ?_
          obtain ⟨a21, rfl, k23, hg⟩ := zh_dr hf
          replace hf := hg
          obtain ⟨o24, h25, hg⟩ := zh_bd hf
          replace hf := hg
          refine ze_aftQ0 (ze_runV (As := [.int x2]) (rest := []) X 4 107 (c_X4_term l D B n k23 h25) vX4_term kml_X6_107 hW k23 rfl rfl ⟨by decide, by decide⟩ rfl hl.1 rfl (Nat.le_of_ble_eq_true rfl) ⟨by show _ + 0 ≤ (4 : Nat); (try dsimp only); omega, by show _ + 0 ≤ (100 : Nat); (try dsimp only); omega⟩ dX6_origin_49) hW (fun H locs hV => ?_)
          replace hW := hV
          refine ze_astore (lv' := [(6, zrf B o24), (5, zrf B o18), (0, .ref (B + a0)), (1, .int x1), (2, .int x2), (3, .int x3), (4, .int x4)]) X.1 X.2.1 dX6_origin_52 hl (by decide) (by first | rfl | (simp [zcat, zcat_i, zcat_r, zcat_l, zrf_some]; done) | (simp [zcat, zcat_i, zcat_r, zcat_l, zrf_some]; decide)) (fun ls hk => ?_)
          replace hl := hk
          refine ze_aload X.1 X.2.1 dX6_origin_54 (lv_at hl 1 rfl) ?_
          refine ze_ifnull (tgt := 64) X.1 X.2.1 dX6_origin_56 (by decide) (fun c27 => ?_) (fun a26 c27 => ?_)
          · replace hf := zcs_none c27 hf
            subst c27
            refine lv_bipush (v := -2) X.1 X.2.1 dX6_origin_64 (by decide) ?_
            obtain ⟨rfl, rfl, rfl, rfl, rfl⟩ := zi5 hf
            exact ze_retI X hr hlk hW (by (try dsimp only); omega) (by (try dsimp only); omega) dX6_origin_66
          · replace hf := zcs_some c27 hf
            subst c27
            refine ze_aload X.1 X.2.1 dX6_origin_59 (lv_at hl 0 rfl) ?_
            refine ze_ifnonnull (tgt := 67) X.1 X.2.1 dX6_origin_61 (by decide) (fun a28 c29 => ?_) (fun c29 => ?_)
            · replace hf := zcs_some c29 hf
              subst c29
              refine lv_aload_n X.1 X.2.1 dX6_origin_67 rfl (lv_at hl 2 rfl) ?_
              refine ze_gtR X 6 8 51 (RX6, TX6, 11) rfl hf hW k13 rfl (by decide) kfl_X6_51 dX6_origin_68 (fun o30 hg => ?_)
              replace hf := hg
              refine lv_aload_n X.1 X.2.1 dX6_origin_71 rfl (lv_at hl 2 rfl) ?_
              refine ze_gtR X 6 3 23 (RX6, TX6, 11) rfl hf hW k13 rfl (by decide) kfl_X6_23 dX6_origin_72 (fun o31 hg => ?_)
              replace hf := hg
              obtain ⟨a32, rfl, k34, hg⟩ := zh_dr hf
              replace hf := hg
              obtain ⟨I35, h36, hg⟩ := zh_bd hf
              replace hf := hg
              refine ze_aftV0 (ze_runV (As := [zrf B o31]) (rest := []) X 0 148 (c_X0_begin l D B n k34 h36) vX0_begin kml_X6_148 hW k34 rfl rfl ⟨by decide, by decide⟩ rfl hl.1 rfl (Nat.le_of_ble_eq_true rfl) ⟨by show _ + 0 ≤ (4 : Nat); (try dsimp only); omega, by show _ + 0 ≤ (100 : Nat); (try dsimp only); omega⟩ dX6_origin_75) hW (fun H locs hV => ?_)
              replace hW := hV
              refine lv_aload_n X.1 X.2.1 dX6_origin_78 rfl (lv_at hl 2 rfl) ?_
              refine ze_gtR X 6 8 51 (RX6, TX6, 11) rfl hf hW k13 rfl (by decide) kfl_X6_51 dX6_origin_79 (fun o37 hg => ?_)
              replace hf := hg
              refine lv_aload X.1 X.2.1 dX6_origin_82 (lv_at hl 1 rfl) ?_
              refine lv_aload X.1 X.2.1 dX6_origin_84 (lv_at hl 0 rfl) ?_
              obtain ⟨a38, rfl, k40, hg⟩ := zh_dr hf
              replace hf := hg
              obtain ⟨o41, n42, K43, I44, R45, h46, hg⟩ := zh_bd5 hf
              replace hf := hg
              refine ze_aftQ (ze_runV (As := [.ref (B + a26), .ref (B + a28)]) (rest := []) X 0 152 (c_X0_joined l D B n h46) vX0_joined kml_X6_152 hW k40 rfl rfl ⟨by decide, by decide⟩ rfl hl.1 rfl (Nat.le_of_ble_eq_true rfl) ⟨by show _ + 4 ≤ (4 : Nat); (try dsimp only); omega, by show _ + 100 ≤ (100 : Nat); (try dsimp only); omega⟩ dX6_origin_86) hW (fun H locs hV => ?_)
              replace hW := hV
              refine ze_ifnonnull (tgt := 95) X.1 X.2.1 dX6_origin_89 (by decide) (fun a47 c48 => ?_) (fun c48 => ?_)
              · replace hf := zcs_some c48 hf
                subst c48
                refine lv_aload_n X.1 X.2.1 dX6_origin_95 rfl (lv_at hl 2 rfl) ?_
                obtain ⟨k49, hg⟩ := zh_if hf
                replace hf := hg
                refine ze_gtR X 6 8 51 (RX6, TX6, 11) rfl hf hW k49 rfl (by decide) kfl_X6_51 dX6_origin_96 (fun o50 hg => ?_)
                replace hf := hg
                refine lv_iload_n X.1 X.2.1 dX6_origin_99 rfl (lv_at hl 5 rfl) ?_
                refine lv_iload X.1 X.2.1 dX6_origin_100 (lv_at hl 6 rfl) ?_
                obtain ⟨a51, rfl, k53, hg⟩ := zh_dr hf
                replace hf := hg
                obtain ⟨v54, h55, hg⟩ := zh_bd hf
                replace hf := hg
                refine ze_aftI0 (ze_runV (As := [.int x3, .int x4]) (rest := []) X 0 163 (c_X0_meaning l D B n42 k53 h55) vX0_meaning kml_X6_163 hW k53 rfl rfl ⟨by decide, by decide⟩ rfl hl.1 rfl (Nat.le_of_ble_eq_true rfl) ⟨by show _ + 0 ≤ (4 : Nat); (try dsimp only); omega, by show _ + 0 ≤ (100 : Nat); (try dsimp only); omega⟩ dX6_origin_102) hW (fun H locs hV => ?_)
                replace hW := hV
                obtain ⟨rfl, rfl, rfl, rfl, rfl⟩ := zi5 hf
                exact ze_retI X hr hlk hW (by (try dsimp only); omega) (by (try dsimp only); omega) dX6_origin_105
              · replace hf := zcs_none c48 hf
                subst c48
                refine lv_bipush (v := -3) X.1 X.2.1 dX6_origin_92 (by decide) ?_
                obtain ⟨rfl, rfl, rfl, rfl, rfl⟩ := zi5 hf
                exact ze_retI X hr hlk hW (by (try dsimp only); omega) (by (try dsimp only); omega) dX6_origin_94
            · replace hf := zcs_none c29 hf
              subst c29
              refine lv_bipush (v := -2) X.1 X.2.1 dX6_origin_64 (by decide) ?_
              obtain ⟨rfl, rfl, rfl, rfl, rfl⟩ := zi5 hf
              exact ze_retI X hr hlk hW (by (try dsimp only); omega) (by (try dsimp only); omega) dX6_origin_66
        · replace hf := zif_neg c12 hf
          refine lv_iconst (v := -1) X.1 X.2.1 dX6_origin_32 (by decide) ?_
          obtain ⟨rfl, rfl, rfl, rfl, rfl⟩ := zi5 hf
          exact ze_retI X hr hlk hW (by (try dsimp only); omega) (by (try dsimp only); omega) dX6_origin_33
end

/-! LeastPatterns$Matcher.fill(III)Z -/
def f_X1_fill (F : Nat) (K : zK) (I : zI) (R : zR) (a0 : Nat) (x1 : Int32) (x2 : Int32) (x3 : Int32) : Option (Int32 × zI) :=
  zbd (some (R a0 0)) fun o1 =>
  zbd (zdr K o1 15) fun a2 =>
  zbd (f_X5_numberOf F K I R a2 x1) fun v5 =>
  zbd (f_X6_outside F K I R v5 (9 : Int32)) fun v7 =>
  if v7 = (0 : Int32) then
    zbd (some (R a0 4)) fun o10 =>
    zbd (zdr K o10 1) fun a11 =>
    zbd (zrd K I a11 v5) fun v14 =>
    if v14 = (-1 : Int32) then
      zbd (some (R a0 4)) fun o59 =>
      zbd (some (R a0 0)) fun o60 =>
      zbd (zdr K o60 15) fun a61 =>
      zbd (f_X5_sortOf F K I R a61 x1) fun v64 =>
      zbd (zdr K o59 1) fun a66 =>
      zbd (zwr K I a66 v5 v64) fun I69 =>
      zbd (some (R a0 5)) fun o70 =>
      zbd (zdr K o70 1) fun a71 =>
      zbd (zwr K I69 a71 v5 x2) fun I74 =>
      zbd (some (R a0 6)) fun o75 =>
      zbd (zdr K o75 1) fun a76 =>
      zbd (zwr K I74 a76 v5 x3) fun I79 =>
      zbd (some (R a0 7)) fun o80 =>
      zbd (some (R a0 3)) fun o81 =>
      zbd (zdr K o81 1) fun a82 =>
      zbd (zrd K I79 a82 x1) fun v85 =>
      zbd (zdr K o80 1) fun a86 =>
      zbd (zwr K I79 a86 v5 v85) fun I89 =>
      some ((1 : Int32), I89)
    else
      zbd (some (R a0 4)) fun o16 =>
      zbd (zdr K o16 1) fun a17 =>
      zbd (zrd K I a17 v5) fun v20 =>
      if v20 = (2 : Int32) then
        zbd (some (R a0 1)) fun o41 =>
        zbd (some (R a0 5)) fun o42 =>
        zbd (zdr K o42 1) fun a43 =>
        zbd (zrd K I a43 v5) fun v46 =>
        zbd (zdr K o41 15) fun a47 =>
        zbd (f_X5_headOf F K I R a47 v46) fun v50 =>
        zbd (some (R a0 1)) fun o52 =>
        zbd (zdr K o52 15) fun a53 =>
        zbd (f_X5_headOf F K I R a53 x2) fun v56 =>
        if v50 = v56 then
          some ((1 : Int32), I)
        else
          some ((0 : Int32), I)
      else
        zbd (some (R a0 6)) fun o22 =>
        zbd (zdr K o22 1) fun a23 =>
        zbd (zrd K I a23 v5) fun v26 =>
        if v26 = x3 then
          zbd (some (R a0 1)) fun o28 =>
          zbd (some (R a0 5)) fun o29 =>
          zbd (zdr K o29 1) fun a30 =>
          zbd (zrd K I a30 v5) fun v33 =>
          zbd (some (R a0 1)) fun o34 =>
          zbd (zdr K o28 15) fun a35 =>
          zbd (f_X5_compareNodes F K I R a35 v33 o34 x2 x3) fun v38 =>
          if v38 = (0 : Int32) then
            some ((1 : Int32), I)
          else
            some ((0 : Int32), I)
        else
          some ((0 : Int32), I)
  else
    some ((0 : Int32), I)
section
variable {p : Program} {l : Launch} {e : Env} {s : State} {m : MethodId} {args : Array Value} {below : List Frame} {meth : Method} {c : Code} {D : zD} {B n n0 n' fd ld : Nat} {K K0 K' : zK} {I I' : zI} {R R' : zR} {H : Heap} {locs : List Loc} {ls : Array Slot} {r : Int32}
set_option maxRecDepth 100000 in
set_option maxHeartbeats 4000000 in
theorem c_X1_fill (l : Launch) (D : zD) (B n : Nat) {F : Nat} {K : zK} {I : zI} {R : zR} {a0 : Nat} {x1 : Int32} {x2 : Int32} {x3 : Int32} {r : Int32} {I' : zI} (hK0 : (K a0).1 = 11) (hf : f_X1_fill F K I R a0 x1 x2 x3 = some (r, I')) : zM l yX1_fill cX1_fill 5 (some .boolean) ({ frames := 2, cells := 0, slots := 0, locals := 67 } : Room) D B n K I R [.ref (B + a0), .int x1, .int x2, .int x3] (zQi D (zOwn B K (B + n)) r B n K I' R) := by
  refine ze_entry (lv0 := [(0, .ref (B + a0)), (1, .int x1), (2, .int x2), (3, .int x3)]) (by decide) (by simp [lg_sl, zcat, zcat_i, zcat_r, zcat_l]) (by simp [lv_args, zcat, zcat_i, zcat_r, zcat_l]) (fun p e s m below meth c X hr hlk hin hW ls hl => ?_)
  unfold f_X1_fill at hf
  refine lv_aload_n X.1 X.2.1 dX1_fill_0 rfl (lv_at hl 0 rfl) ?_
  refine ze_gtR X 1 0 12 (RX1, TX1, 8) rfl hf hW hK0 rfl (by decide) kfl_X1_12 dX1_fill_1 (fun o1 hg => ?_)
  replace hf := hg
  refine lv_iload_n X.1 X.2.1 dX1_fill_4 rfl (lv_at hl 1 rfl) ?_
  obtain ⟨a2, rfl, k4, hg⟩ := zh_dr hf
  replace hf := hg
  obtain ⟨v5, h6, hg⟩ := zh_bd hf
  replace hf := hg
  refine ze_aftI0 (ze_runV (As := [.int x1]) (rest := []) X 5 75 (c_X5_numberOf l D B n k4 h6) vX5_numberOf kml_X1_75 hW k4 rfl rfl ⟨by decide, by decide⟩ rfl hl.1 rfl (Nat.le_of_ble_eq_true rfl) ⟨Nat.le_refl _, Nat.le_refl _⟩ dX1_fill_5) hW (fun H locs hV => ?_)
  replace hW := hV
  refine lv_istore (lv' := [(4, .int v5), (0, .ref (B + a0)), (1, .int x1), (2, .int x2), (3, .int x3)]) X.1 X.2.1 dX1_fill_8 hl (by decide) rfl (fun ls hk => ?_)
  replace hl := hk
  refine lv_iload X.1 X.2.1 dX1_fill_10 (lv_at hl 0 rfl) ?_
  refine lv_bipush (v := 9) X.1 X.2.1 dX1_fill_12 (by decide) ?_
  obtain ⟨v7, h8, hg⟩ := zh_bd hf
  replace hf := hg
  refine ze_aftI0 (ze_runSN (As := [.int v5, .int (9 : Int32)]) (rest := []) X 78 (c_X6_outside l D B n h8) vX6_outside kml_X1_78 hW ⟨by decide, by decide⟩ rfl hl.1 rfl (Nat.le_of_ble_eq_true rfl) ⟨Nat.le_refl _, Nat.le_refl _⟩ dX1_fill_14) hW (fun H locs hV => ?_)
  replace hW := hV
  refine lv_if_eq (tgt := 22) X.1 X.2.1 dX1_fill_17 (by decide) (fun c9 => ?_) (fun c9 => ?_)
  · replace hf := zif_pos c9 hf
    refine lv_aload_n X.1 X.2.1 dX1_fill_22 rfl (lv_at hl 1 rfl) ?_
    refine ze_gtR X 1 4 28 (RX1, TX1, 8) rfl hf hW hK0 rfl (by decide) kfl_X1_28 dX1_fill_23 (fun o10 hg => ?_)
    replace hf := hg
    refine lv_iload X.1 X.2.1 dX1_fill_26 (lv_at hl 0 rfl) ?_
    obtain ⟨a11, rfl, k13, hg⟩ := zh_dr hf
    replace hf := hg
    refine ze_iald X hf hW k13 dX1_fill_28 (fun v14 hg => ?_)
    replace hf := hg
    refine lv_iconst (v := -1) X.1 X.2.1 dX1_fill_29 (by decide) ?_
    refine lv_icmp_ne (tgt := 79) X.1 X.2.1 dX1_fill_30 (by decide) (fun c15 => ?_) (fun c15 => ?_)
    · replace hf := zif_neg c15 hf
      refine lv_aload_n X.1 X.2.1 dX1_fill_79 rfl (lv_at hl 1 rfl) ?_
      refine ze_gtR X 1 4 28 (RX1, TX1, 8) rfl hf hW hK0 rfl (by decide) kfl_X1_28 dX1_fill_80 (fun o16 hg => ?_)
      replace hf := hg
      refine lv_iload X.1 X.2.1 dX1_fill_83 (lv_at hl 0 rfl) ?_
      obtain ⟨a17, rfl, k19, hg⟩ := zh_dr hf
      replace hf := hg
      refine ze_iald X hf hW k19 dX1_fill_85 (fun v20 hg => ?_)
      replace hf := hg
      refine lv_iconst (v := 2) X.1 X.2.1 dX1_fill_86 (by decide) ?_
      refine lv_icmp_ne (tgt := 121) X.1 X.2.1 dX1_fill_87 (by decide) (fun c21 => ?_) (fun c21 => ?_)
      · replace hf := zif_neg c21 hf
        refine lv_aload_n X.1 X.2.1 dX1_fill_121 rfl (lv_at hl 1 rfl) ?_
        refine ze_gtR X 1 6 34 (RX1, TX1, 8) rfl hf hW hK0 rfl (by decide) kfl_X1_34 dX1_fill_122 (fun o22 hg => ?_)
        replace hf := hg
        refine lv_iload X.1 X.2.1 dX1_fill_125 (lv_at hl 0 rfl) ?_
        obtain ⟨a23, rfl, k25, hg⟩ := zh_dr hf
        replace hf := hg
        refine ze_iald X hf hW k25 dX1_fill_127 (fun v26 hg => ?_)
        replace hf := hg
        refine lv_iload_n X.1 X.2.1 dX1_fill_128 rfl (lv_at hl 4 rfl) ?_
        refine lv_icmp_ne (tgt := 159) X.1 X.2.1 dX1_fill_129 (by decide) (fun c27 => ?_) (fun c27 => ?_)
        · replace hf := zif_neg c27 hf
          refine lv_iconst (v := 0) X.1 X.2.1 dX1_fill_159 (by decide) ?_
          obtain ⟨rfl, rfl⟩ := zi2 hf
          exact ze_retZ X hr hlk (by decide) hW (Nat.le_refl _) (Nat.le_refl _) dX1_fill_160
        · replace hf := zif_pos c27 hf
          refine lv_aload_n X.1 X.2.1 dX1_fill_132 rfl (lv_at hl 1 rfl) ?_
          refine ze_gtR X 1 1 18 (RX1, TX1, 8) rfl hf hW hK0 rfl (by decide) kfl_X1_18 dX1_fill_133 (fun o28 hg => ?_)
          replace hf := hg
          refine lv_aload_n X.1 X.2.1 dX1_fill_136 rfl (lv_at hl 1 rfl) ?_
          refine ze_gtR X 1 5 31 (RX1, TX1, 8) rfl hf hW hK0 rfl (by decide) kfl_X1_31 dX1_fill_137 (fun o29 hg => ?_)
          replace hf := hg
          refine lv_iload X.1 X.2.1 dX1_fill_140 (lv_at hl 0 rfl) ?_
          obtain ⟨a30, rfl, k32, hg⟩ := zh_dr hf
          replace hf := hg
          refine ze_iald X hf hW k32 dX1_fill_142 (fun v33 hg => ?_)
          replace hf := hg
          refine lv_aload_n X.1 X.2.1 dX1_fill_143 rfl (lv_at hl 1 rfl) ?_
          refine ze_gtR X 1 1 18 (RX1, TX1, 8) rfl hf hW hK0 rfl (by decide) kfl_X1_18 dX1_fill_144 (fun o34 hg => ?_)
          replace hf := hg
          refine lv_iload_n X.1 X.2.1 dX1_fill_147 rfl (lv_at hl 3 rfl) ?_
          refine lv_iload_n X.1 X.2.1 dX1_fill_148 rfl (lv_at hl 4 rfl) ?_
          obtain ⟨a35, rfl, k37, hg⟩ := zh_dr hf
          replace hf := hg
          obtain ⟨v38, h39, hg⟩ := zh_bd hf
          replace hf := hg
          refine ze_aftI0 (ze_runV (As := [.int v33, zrf B o34, .int x2, .int x3]) (rest := []) X 5 81 (c_X5_compareNodes l D B n k37 h39) vX5_compareNodes kml_X1_81 hW k37 rfl rfl ⟨by decide, by decide⟩ rfl hl.1 rfl (Nat.le_of_ble_eq_true rfl) ⟨Nat.le_refl _, Nat.le_refl _⟩ dX1_fill_149) hW (fun H locs hV => ?_)
          replace hW := hV
          refine lv_if_ne (tgt := 159) X.1 X.2.1 dX1_fill_152 (by decide) (fun c40 => ?_) (fun c40 => ?_)
          · replace hf := zif_neg c40 hf
            refine lv_iconst (v := 0) X.1 X.2.1 dX1_fill_159 (by decide) ?_
            obtain ⟨rfl, rfl⟩ := zi2 hf
            exact ze_retZ X hr hlk (by decide) hW (Nat.le_refl _) (Nat.le_refl _) dX1_fill_160
          · replace hf := zif_pos c40 hf
            refine lv_iconst (v := 1) X.1 X.2.1 dX1_fill_155 (by decide) ?_
            refine lv_goto (tgt := 160) X.1 X.2.1 dX1_fill_156 (by decide) ?_
            obtain ⟨rfl, rfl⟩ := zi2 hf
            exact ze_retZ X hr hlk (by decide) hW (Nat.le_refl _) (Nat.le_refl _) dX1_fill_160
      · replace hf := zif_pos c21 hf
        refine lv_aload_n X.1 X.2.1 dX1_fill_90 rfl (lv_at hl 1 rfl) ?_
        refine ze_gtR X 1 1 18 (RX1, TX1, 8) rfl hf hW hK0 rfl (by decide) kfl_X1_18 dX1_fill_91 (fun o41 hg => ?_)
        replace hf := hg
        refine lv_aload_n X.1 X.2.1 dX1_fill_94 rfl (lv_at hl 1 rfl) ?_
        refine ze_gtR X 1 5 31 (RX1, TX1, 8) rfl hf hW hK0 rfl (by decide) kfl_X1_31 dX1_fill_95 (fun o42 hg => ?_)
        replace hf := hg
        refine lv_iload X.1 X.2.1 dX1_fill_98 (lv_at hl 0 rfl) ?_
        obtain ⟨a43, rfl, k45, hg⟩ := zh_dr hf
        replace hf := hg
        refine ze_iald X hf hW k45 dX1_fill_100 (fun v46 hg => ?_)
        replace hf := hg
        obtain ⟨a47, rfl, k49, hg⟩ := zh_dr hf
        replace hf := hg
        obtain ⟨v50, h51, hg⟩ := zh_bd hf
        replace hf := hg
        refine ze_aftI0 (ze_runV (As := [.int v46]) (rest := []) X 5 66 (c_X5_headOf l D B n k49 h51) vX5_headOf kml_X1_66 hW k49 rfl rfl ⟨by decide, by decide⟩ rfl hl.1 rfl (Nat.le_of_ble_eq_true rfl) ⟨Nat.le_refl _, Nat.le_refl _⟩ dX1_fill_101) hW (fun H locs hV => ?_)
        replace hW := hV
        refine lv_aload_n X.1 X.2.1 dX1_fill_104 rfl (lv_at hl 1 rfl) ?_
        refine ze_gtR X 1 1 18 (RX1, TX1, 8) rfl hf hW hK0 rfl (by decide) kfl_X1_18 dX1_fill_105 (fun o52 hg => ?_)
        replace hf := hg
        refine lv_iload_n X.1 X.2.1 dX1_fill_108 rfl (lv_at hl 3 rfl) ?_
        obtain ⟨a53, rfl, k55, hg⟩ := zh_dr hf
        replace hf := hg
        obtain ⟨v56, h57, hg⟩ := zh_bd hf
        replace hf := hg
        refine ze_aftI0 (ze_runV (As := [.int x2]) (rest := [.int v50]) X 5 66 (c_X5_headOf l D B n k55 h57) vX5_headOf kml_X1_66 hW k55 rfl rfl ⟨by decide, by decide⟩ rfl hl.1 rfl (Nat.le_of_ble_eq_true rfl) ⟨Nat.le_refl _, Nat.le_refl _⟩ dX1_fill_109) hW (fun H locs hV => ?_)
        replace hW := hV
        refine lv_icmp_ne (tgt := 119) X.1 X.2.1 dX1_fill_112 (by decide) (fun c58 => ?_) (fun c58 => ?_)
        · replace hf := zif_neg c58 hf
          refine lv_iconst (v := 0) X.1 X.2.1 dX1_fill_119 (by decide) ?_
          obtain ⟨rfl, rfl⟩ := zi2 hf
          exact ze_retZ X hr hlk (by decide) hW (Nat.le_refl _) (Nat.le_refl _) dX1_fill_120
        · replace hf := zif_pos c58 hf
          refine lv_iconst (v := 1) X.1 X.2.1 dX1_fill_115 (by decide) ?_
          refine lv_goto (tgt := 120) X.1 X.2.1 dX1_fill_116 (by decide) ?_
          obtain ⟨rfl, rfl⟩ := zi2 hf
          exact ze_retZ X hr hlk (by decide) hW (Nat.le_refl _) (Nat.le_refl _) dX1_fill_120
    · replace hf := zif_pos c15 hf
      refine lv_aload_n X.1 X.2.1 dX1_fill_33 rfl (lv_at hl 1 rfl) ?_
      refine ze_gtR X 1 4 28 (RX1, TX1, 8) rfl hf hW hK0 rfl (by decide) kfl_X1_28 dX1_fill_34 (fun o59 hg => ?_)
      replace hf := hg
      refine lv_iload X.1 X.2.1 dX1_fill_37 (lv_at hl 0 rfl) ?_
      refine lv_aload_n X.1 X.2.1 dX1_fill_39 rfl (lv_at hl 1 rfl) ?_
      refine ze_gtR X 1 0 12 (RX1, TX1, 8) rfl hf hW hK0 rfl (by decide) kfl_X1_12 dX1_fill_40 (fun o60 hg => ?_)
      replace hf := hg
      refine lv_iload_n X.1 X.2.1 dX1_fill_43 rfl (lv_at hl 2 rfl) ?_
      obtain ⟨a61, rfl, k63, hg⟩ := zh_dr hf
      replace hf := hg
      obtain ⟨v64, h65, hg⟩ := zh_bd hf
      replace hf := hg
      refine ze_aftI0 (ze_runV (As := [.int x1]) (rest := [.int v5, zrf B o59]) X 5 48 (c_X5_sortOf l D B n k63 h65) vX5_sortOf kml_X1_48 hW k63 rfl rfl ⟨by decide, by decide⟩ rfl hl.1 rfl (by simp [zcat, zcat_i, zcat_r, zcat_l]) ⟨Nat.le_refl _, Nat.le_refl _⟩ dX1_fill_44) hW (fun H locs hV => ?_)
      replace hW := hV
      obtain ⟨a66, rfl, k68, hg⟩ := zh_dr hf
      replace hf := hg
      refine ze_iast X hf hW k68 dX1_fill_47 (fun I69 H locs hg hV => ?_)
      replace hf := hg
      replace hW := hV
      refine lv_aload_n X.1 X.2.1 dX1_fill_48 rfl (lv_at hl 1 rfl) ?_
      refine ze_gtR X 1 5 31 (RX1, TX1, 8) rfl hf hW hK0 rfl (by decide) kfl_X1_31 dX1_fill_49 (fun o70 hg => ?_)
      replace hf := hg
      refine lv_iload X.1 X.2.1 dX1_fill_52 (lv_at hl 0 rfl) ?_
      refine lv_iload_n X.1 X.2.1 dX1_fill_54 rfl (lv_at hl 3 rfl) ?_
      obtain ⟨a71, rfl, k73, hg⟩ := zh_dr hf
      replace hf := hg
      refine ze_iast X hf hW k73 dX1_fill_55 (fun I74 H locs hg hV => ?_)
      replace hf := hg
      replace hW := hV
      refine lv_aload_n X.1 X.2.1 dX1_fill_56 rfl (lv_at hl 1 rfl) ?_
      refine ze_gtR X 1 6 34 (RX1, TX1, 8) rfl hf hW hK0 rfl (by decide) kfl_X1_34 dX1_fill_57 (fun o75 hg => ?_)
      replace hf := hg
      refine lv_iload X.1 X.2.1 dX1_fill_60 (lv_at hl 0 rfl) ?_
      refine lv_iload_n X.1 X.2.1 dX1_fill_62 rfl (lv_at hl 4 rfl) ?_
      obtain ⟨a76, rfl, k78, hg⟩ := zh_dr hf
      replace hf := hg
      refine ze_iast X hf hW k78 dX1_fill_63 (fun I79 H locs hg hV => ?_)
      replace hf := hg
      replace hW := hV
      refine lv_aload_n X.1 X.2.1 dX1_fill_64 rfl (lv_at hl 1 rfl) ?_
      refine ze_gtR X 1 7 37 (RX1, TX1, 8) rfl hf hW hK0 rfl (by decide) kfl_X1_37 dX1_fill_65 (fun o80 hg => ?_)
      replace hf := hg
      refine lv_iload X.1 X.2.1 dX1_fill_68 (lv_at hl 0 rfl) ?_
      refine lv_aload_n X.1 X.2.1 dX1_fill_70 rfl (lv_at hl 1 rfl) ?_
      refine ze_gtR X 1 3 25 (RX1, TX1, 8) rfl hf hW hK0 rfl (by decide) kfl_X1_25 dX1_fill_71 (fun o81 hg => ?_)
      replace hf := hg
      refine lv_iload_n X.1 X.2.1 dX1_fill_74 rfl (lv_at hl 2 rfl) ?_
      obtain ⟨a82, rfl, k84, hg⟩ := zh_dr hf
      replace hf := hg
      refine ze_iald X hf hW k84 dX1_fill_75 (fun v85 hg => ?_)
      replace hf := hg
      obtain ⟨a86, rfl, k88, hg⟩ := zh_dr hf
      replace hf := hg
      refine ze_iast X hf hW k88 dX1_fill_76 (fun I89 H locs hg hV => ?_)
      replace hf := hg
      replace hW := hV
      refine lv_iconst (v := 1) X.1 X.2.1 dX1_fill_77 (by decide) ?_
      obtain ⟨rfl, rfl⟩ := zi2 hf
      exact ze_retZ X hr hlk (by decide) hW (Nat.le_refl _) (Nat.le_refl _) dX1_fill_78
  · replace hf := zif_neg c9 hf
    refine lv_iconst (v := 0) X.1 X.2.1 dX1_fill_20 (by decide) ?_
    obtain ⟨rfl, rfl⟩ := zi2 hf
    exact ze_retZ X hr hlk (by decide) hW (Nat.le_refl _) (Nat.le_refl _) dX1_fill_21
end

/-! LeastPatterns$Matcher.placeArguments(II)Z -/
def f_X1_placeArguments_113 (F : Nat) (K : zK) (R : zR) (a0 : Nat) (k72 : zI → Int32 → Int32 → Int32 → Int32 → Int32 → Int32 → Option (Int32 × zI)) (I : zI) (x3 : Int32) (x4 : Int32) (x5 : Int32) (x6 : Int32) (x7 : Int32) (x8 : Int32) (s0 : Option Nat) (s1 : Int32) (s2 : Int32) : Option (Int32 × zI) :=
  zbd (zdr K s0 1) fun a1 =>
  zbd (zwr K I a1 s1 s2) fun I4 =>
  zbd (some (R a0 1)) fun o5 =>
  zbd (some (R a0 3)) fun o6 =>
  zbd (zdr K o6 1) fun a7 =>
  zbd (zrd K I4 a7 x6) fun v10 =>
  zbd (zdr K o5 15) fun a11 =>
  zbd (f_X5_argument F K I4 R a11 (x7 - (1 : Int32)) v10) fun v14 =>
  zbd (some (R a0 0)) fun o16 =>
  zbd (zdr K o16 15) fun a17 =>
  zbd (f_X5_spanOf F K I4 R a17 x6) fun v20 =>
  zbd (some (x6 + v20)) fun v22 =>
  k72 I4 x3 x4 x5 v22 v14 (x8 + (1 : Int32))
def g_X1_placeArguments_72 (F : Nat) (K : zK) (R : zR) (a0 : Nat)  (kself : zI → Int32 → Int32 → Int32 → Int32 → Int32 → Int32 → Option (Int32 × zI)) (I : zI) (x3 : Int32) (x4 : Int32) (x5 : Int32) (x6 : Int32) (x7 : Int32) (x8 : Int32) : Option (Int32 × zI) :=
  if x3 ≤ x8 then
    some ((1 : Int32), I)
  else
    if (32 : Int32) ≤ x6 then
      some ((1 : Int32), I)
    else
      zbd (some (R a0 2)) fun o25 =>
      zbd (zdr K o25 1) fun a26 =>
      zbd (zwr K I a26 x6 x7) fun I29 =>
      zbd (some (R a0 3)) fun o30 =>
      if x8 = x4 then
        f_X1_placeArguments_113 F K R a0 kself I29 x3 x4 x5 x6 x7 x8 o30 x6 x5
      else
        f_X1_placeArguments_113 F K R a0 kself I29 x3 x4 x5 x6 x7 x8 o30 x6 (1 : Int32)
def f_X1_placeArguments_72 (F : Nat) (K : zK) (R : zR) (a0 : Nat)  : Nat → zI → Int32 → Int32 → Int32 → Int32 → Int32 → Int32 → Option (Int32 × zI)
  | 0, _, _, _, _, _, _, _ => none
  | t + 1, I, x3, x4, x5, x6, x7, x8 => g_X1_placeArguments_72 F K R a0  (f_X1_placeArguments_72 F K R a0  t) I x3 x4 x5 x6 x7 x8
def f_X1_placeArguments_59 (F : Nat) (K : zK) (R : zR) (a0 : Nat)  (I : zI) (x1 : Int32) (x2 : Int32) (x3 : Int32) (x4 : Int32) (x5 : Int32) : Option (Int32 × zI) :=
  zbd (some (x1 + (1 : Int32))) fun v32 =>
  zbd (some (x2 + (1 : Int32))) fun v33 =>
  f_X1_placeArguments_72 F K R a0 F I x3 x4 x5 v32 v33 (0 : Int32)
def f_X1_placeArguments_39 (F : Nat) (K : zK) (R : zR) (a0 : Nat)  (I : zI) (x1 : Int32) (x2 : Int32) (x3 : Int32) (x4 : Int32) (s0 : Int32) (s1 : Int32) : Option (Int32 × zI) :=
  zbd (some (s0 + s1)) fun v34 =>
  if v34 < (0 : Int32) then
    some ((0 : Int32), I)
  else
    if (0 : Int32) ≤ x4 then
      f_X1_placeArguments_59 F K R a0 I x1 x2 x3 x4 v34
    else
      if v34 ≤ (0 : Int32) then
        f_X1_placeArguments_59 F K R a0 I x1 x2 x3 x4 v34
      else
        some ((0 : Int32), I)
def f_X1_placeArguments (F : Nat) (K : zK) (I : zI) (R : zR) (a0 : Nat) (x1 : Int32) (x2 : Int32) : Option (Int32 × zI) :=
  zbd (some (R a0 0)) fun o38 =>
  zbd (zdr K o38 15) fun a39 =>
  zbd (f_X5_argumentsOf F K I R a39 x1) fun v42 =>
  zbd (some (R a0 0)) fun o44 =>
  zbd (zdr K o44 15) fun a45 =>
  zbd (f_X5_sequencePlace F K I R a45 x1) fun v48 =>
  zbd (some (R a0 1)) fun o50 =>
  zbd (zdr K o50 15) fun a51 =>
  zbd (f_X5_argumentsOf F K I R a51 x2) fun v54 =>
  if v48 < (0 : Int32) then
    f_X1_placeArguments_39 F K R a0 I x1 x2 v42 v48 (v54 - v42) (0 : Int32)
  else
    f_X1_placeArguments_39 F K R a0 I x1 x2 v42 v48 (v54 - v42) (1 : Int32)
section
variable {p : Program} {l : Launch} {e : Env} {s : State} {m : MethodId} {args : Array Value} {below : List Frame} {meth : Method} {c : Code} {D : zD} {B n n0 n' fd ld : Nat} {K K0 K' : zK} {I I' : zI} {R R' : zR} {H : Heap} {locs : List Loc} {ls : Array Slot} {r : Int32}
set_option maxRecDepth 100000 in
set_option maxHeartbeats 4000000 in
theorem w_X1_placeArguments_113 {F : Nat} {a0 : Nat} {k72 : zI → Int32 → Int32 → Int32 → Int32 → Int32 → Int32 → Option (Int32 × zI)} (X : zX p s m c cX1_placeArguments 9 RX1 D) (hr : meth.sig.returnType = some .boolean) (hlk : meth.locks = false) (hK0 : (K a0).1 = 11) (hk72 : ∀ (I : zI) (x3 : Int32) (x4 : Int32) (x5 : Int32) (x6 : Int32) (x7 : Int32) (x8 : Int32) (H : Heap) (locs : List Loc) (ls : Array Slot), k72 I x3 x4 x5 x6 x7 x8 = some (r, I') → zS (zOwn B K (B + n)) D B n K I R s.heap H locs → lv_has ls 9 [(0, .ref (B + a0)), (3, .int x3), (4, .int x4), (5, .int x5), (6, .int x6), (7, .int x7), (8, .int x8)] → W p l e ({ frames := 3, cells := 0, slots := 0, locals := 85 } : Room) s m args below meth c H locs 0 0 (MQ below (zQi D (zOwn B K (B + n)) r B n K I' R) args s 0 0 (zOwn B K (B + n))) (F0 m 72 ls [])) {x3 : Int32} {x4 : Int32} {x5 : Int32} {x6 : Int32} {x7 : Int32} {x8 : Int32} {s0 : Option Nat} {s1 : Int32} {s2 : Int32} (hf : f_X1_placeArguments_113 F K R a0 k72 I x3 x4 x5 x6 x7 x8 s0 s1 s2 = some (r, I')) (hW : zS (zOwn B K (B + n)) D B n K I R s.heap H locs) (hl : lv_has ls 9 [(0, .ref (B + a0)), (3, .int x3), (4, .int x4), (5, .int x5), (6, .int x6), (7, .int x7), (8, .int x8)]) : W p l e ({ frames := 3, cells := 0, slots := 0, locals := 85 } : Room) s m args below meth c H locs 0 0 (MQ below (zQi D (zOwn B K (B + n)) r B n K I' R) args s 0 0 (zOwn B K (B + n))) (F0 m 113 ls [.int s2, .int s1, zrf B s0]) := by
  unfold f_X1_placeArguments_113 at hf
  obtain ⟨a1, rfl, k3, hg⟩ := zh_dr hf
  replace hf := hg
  refine ze_iast X hf hW k3 dX1_placeArguments_113 (fun I4 H locs hg hV => ?_)
  replace hf := hg
  replace hW := hV
  refine lv_aload_n X.1 X.2.1 dX1_placeArguments_114 rfl (lv_at hl 0 rfl) ?_
  refine ze_gtR X 1 1 18 (RX1, TX1, 8) rfl hf hW hK0 rfl (by decide) kfl_X1_18 dX1_placeArguments_115 (fun o5 hg => ?_)
  replace hf := hg
  refine lv_iload X.1 X.2.1 dX1_placeArguments_118 (lv_at hl 5 rfl) ?_
  refine lv_iconst (v := 1) X.1 X.2.1 dX1_placeArguments_120 (by decide) ?_
  refine lv_isub X.1 X.2.1 dX1_placeArguments_121 ?_
  refine lv_aload_n X.1 X.2.1 dX1_placeArguments_122 rfl (lv_at hl 0 rfl) ?_
  refine ze_gtR X 1 3 25 (RX1, TX1, 8) rfl hf hW hK0 rfl (by decide) kfl_X1_25 dX1_placeArguments_123 (fun o6 hg => ?_)
  replace hf := hg
  refine lv_iload X.1 X.2.1 dX1_placeArguments_126 (lv_at hl 4 rfl) ?_
  obtain ⟨a7, rfl, k9, hg⟩ := zh_dr hf
  replace hf := hg
  refine ze_iald X hf hW k9 dX1_placeArguments_128 (fun v10 hg => ?_)
  replace hf := hg
  obtain ⟨a11, rfl, k13, hg⟩ := zh_dr hf
  replace hf := hg
  obtain ⟨v14, h15, hg⟩ := zh_bd hf
  replace hf := hg
  refine ze_aftI0 (ze_runV (As := [.int (x7 - (1 : Int32)), .int v10]) (rest := []) X 5 52 (c_X5_argument l D B n k13 h15) vX5_argument kml_X1_52 hW k13 rfl rfl ⟨by decide, by decide⟩ rfl hl.1 rfl (Nat.le_of_ble_eq_true rfl) ⟨Nat.le_refl _, Nat.le_refl _⟩ dX1_placeArguments_129) hW (fun H locs hV => ?_)
  replace hW := hV
  refine lv_istore (lv' := [(7, .int v14), (0, .ref (B + a0)), (3, .int x3), (4, .int x4), (5, .int x5), (6, .int x6), (8, .int x8)]) X.1 X.2.1 dX1_placeArguments_132 hl (by decide) rfl (fun ls hk => ?_)
  replace hl := hk
  refine lv_iload X.1 X.2.1 dX1_placeArguments_134 (lv_at hl 5 rfl) ?_
  refine lv_aload_n X.1 X.2.1 dX1_placeArguments_136 rfl (lv_at hl 1 rfl) ?_
  refine ze_gtR X 1 0 12 (RX1, TX1, 8) rfl hf hW hK0 rfl (by decide) kfl_X1_12 dX1_placeArguments_137 (fun o16 hg => ?_)
  replace hf := hg
  refine lv_iload X.1 X.2.1 dX1_placeArguments_140 (lv_at hl 5 rfl) ?_
  obtain ⟨a17, rfl, k19, hg⟩ := zh_dr hf
  replace hf := hg
  obtain ⟨v20, h21, hg⟩ := zh_bd hf
  replace hf := hg
  refine ze_aftI0 (ze_runV (As := [.int x6]) (rest := [.int x6]) X 5 60 (c_X5_spanOf l D B n k19 h21) vX5_spanOf kml_X1_60 hW k19 rfl rfl ⟨by decide, by decide⟩ rfl hl.1 rfl (Nat.le_of_ble_eq_true rfl) ⟨Nat.le_refl _, Nat.le_refl _⟩ dX1_placeArguments_142) hW (fun H locs hV => ?_)
  replace hW := hV
  refine lv_iadd X.1 X.2.1 dX1_placeArguments_145 ?_
  refine ze_nm hf (fun v22 hg => ?_)
  replace hf := hg
  refine lv_istore (lv' := [(6, .int v22), (7, .int v14), (0, .ref (B + a0)), (3, .int x3), (4, .int x4), (5, .int x5), (8, .int x8)]) X.1 X.2.1 dX1_placeArguments_146 hl (by decide) rfl (fun ls hk => ?_)
  replace hl := hk
  refine ze_iinc (lv' := [(8, .int (x8 + (1 : Int32))), (6, .int v22), (7, .int v14), (0, .ref (B + a0)), (3, .int x3), (4, .int x4), (5, .int x5)]) (d := 1) X.1 X.2.1 dX1_placeArguments_148 hl (k := 6) rfl (by decide) (by decide) rfl (fun ls hk => ?_)
  replace hl := hk
  refine lv_goto (tgt := 72) X.1 X.2.1 dX1_placeArguments_151 (by decide) ?_
  exact hk72 _ _ _ _ _ _ _ _ _ _ hf hW (lv_sub hl [3, 4, 5, 6, 1, 2, 0] rfl)
set_option maxRecDepth 100000 in
set_option maxHeartbeats 4000000 in
theorem wg_X1_placeArguments_72 {F : Nat} {a0 : Nat}  (X : zX p s m c cX1_placeArguments 9 RX1 D) (hr : meth.sig.returnType = some .boolean) (hlk : meth.locks = false) (hK0 : (K a0).1 = 11)  {kself : zI → Int32 → Int32 → Int32 → Int32 → Int32 → Int32 → Option (Int32 × zI)} (hkself : ∀ (I : zI) (x3 : Int32) (x4 : Int32) (x5 : Int32) (x6 : Int32) (x7 : Int32) (x8 : Int32) (H : Heap) (locs : List Loc) (ls : Array Slot), kself I x3 x4 x5 x6 x7 x8 = some (r, I') → zS (zOwn B K (B + n)) D B n K I R s.heap H locs → lv_has ls 9 [(0, .ref (B + a0)), (3, .int x3), (4, .int x4), (5, .int x5), (6, .int x6), (7, .int x7), (8, .int x8)] → W p l e ({ frames := 3, cells := 0, slots := 0, locals := 85 } : Room) s m args below meth c H locs 0 0 (MQ below (zQi D (zOwn B K (B + n)) r B n K I' R) args s 0 0 (zOwn B K (B + n))) (F0 m 72 ls [])) {x3 : Int32} {x4 : Int32} {x5 : Int32} {x6 : Int32} {x7 : Int32} {x8 : Int32} (hf : g_X1_placeArguments_72 F K R a0  kself I x3 x4 x5 x6 x7 x8 = some (r, I')) (hW : zS (zOwn B K (B + n)) D B n K I R s.heap H locs) (hl : lv_has ls 9 [(0, .ref (B + a0)), (3, .int x3), (4, .int x4), (5, .int x5), (6, .int x6), (7, .int x7), (8, .int x8)]) : W p l e ({ frames := 3, cells := 0, slots := 0, locals := 85 } : Room) s m args below meth c H locs 0 0 (MQ below (zQi D (zOwn B K (B + n)) r B n K I' R) args s 0 0 (zOwn B K (B + n))) (F0 m 72 ls []) := by
  unfold g_X1_placeArguments_72 at hf
  refine lv_iload X.1 X.2.1 dX1_placeArguments_72 (lv_at hl 6 rfl) ?_
  refine lv_iload_n X.1 X.2.1 dX1_placeArguments_74 rfl (lv_at hl 1 rfl) ?_
  refine lv_icmp_ge (tgt := 154) X.1 X.2.1 dX1_placeArguments_75 (by decide) (fun c23 => ?_) (fun c23 => ?_)
  · replace hf := zif_pos c23 hf
    refine lv_iconst (v := 1) X.1 X.2.1 dX1_placeArguments_154 (by decide) ?_
    obtain ⟨rfl, rfl⟩ := zi2 hf
    exact ze_retZ X hr hlk (by decide) hW (Nat.le_refl _) (Nat.le_refl _) dX1_placeArguments_155
  · replace hf := zif_neg c23 hf
    refine lv_iload X.1 X.2.1 dX1_placeArguments_78 (lv_at hl 4 rfl) ?_
    refine lv_bipush (v := 32) X.1 X.2.1 dX1_placeArguments_80 (by decide) ?_
    refine lv_icmp_ge (tgt := 154) X.1 X.2.1 dX1_placeArguments_82 (by decide) (fun c24 => ?_) (fun c24 => ?_)
    · replace hf := zif_pos c24 hf
      refine lv_iconst (v := 1) X.1 X.2.1 dX1_placeArguments_154 (by decide) ?_
      obtain ⟨rfl, rfl⟩ := zi2 hf
      exact ze_retZ X hr hlk (by decide) hW (Nat.le_refl _) (Nat.le_refl _) dX1_placeArguments_155
    · replace hf := zif_neg c24 hf
      refine lv_aload_n X.1 X.2.1 dX1_placeArguments_85 rfl (lv_at hl 0 rfl) ?_
      refine ze_gtR X 1 2 21 (RX1, TX1, 8) rfl hf hW hK0 rfl (by decide) kfl_X1_21 dX1_placeArguments_86 (fun o25 hg => ?_)
      replace hf := hg
      refine lv_iload X.1 X.2.1 dX1_placeArguments_89 (lv_at hl 4 rfl) ?_
      refine lv_iload X.1 X.2.1 dX1_placeArguments_91 (lv_at hl 5 rfl) ?_
      obtain ⟨a26, rfl, k28, hg⟩ := zh_dr hf
      replace hf := hg
      refine ze_iast X hf hW k28 dX1_placeArguments_93 (fun I29 H locs hg hV => ?_)
      replace hf := hg
      replace hW := hV
      refine lv_aload_n X.1 X.2.1 dX1_placeArguments_94 rfl (lv_at hl 0 rfl) ?_
      refine ze_gtR X 1 3 25 (RX1, TX1, 8) rfl hf hW hK0 rfl (by decide) kfl_X1_25 dX1_placeArguments_95 (fun o30 hg => ?_)
      replace hf := hg
      refine lv_iload X.1 X.2.1 dX1_placeArguments_98 (lv_at hl 4 rfl) ?_
      refine lv_iload X.1 X.2.1 dX1_placeArguments_100 (lv_at hl 6 rfl) ?_
      refine lv_iload X.1 X.2.1 dX1_placeArguments_102 (lv_at hl 2 rfl) ?_
      refine lv_icmp_ne (tgt := 112) X.1 X.2.1 dX1_placeArguments_104 (by decide) (fun c31 => ?_) (fun c31 => ?_)
      · replace hf := zif_neg c31 hf
        refine lv_iconst (v := 1) X.1 X.2.1 dX1_placeArguments_112 (by decide) ?_
        exact w_X1_placeArguments_113 X hr hlk hK0 hkself hf hW hl
      · replace hf := zif_pos c31 hf
        refine lv_iload X.1 X.2.1 dX1_placeArguments_107 (lv_at hl 3 rfl) ?_
        refine lv_goto (tgt := 113) X.1 X.2.1 dX1_placeArguments_109 (by decide) ?_
        exact w_X1_placeArguments_113 X hr hlk hK0 hkself hf hW hl
set_option maxRecDepth 100000 in
set_option maxHeartbeats 4000000 in
theorem w_X1_placeArguments_72 {F : Nat} {a0 : Nat}  (X : zX p s m c cX1_placeArguments 9 RX1 D) (hr : meth.sig.returnType = some .boolean) (hlk : meth.locks = false) (hK0 : (K a0).1 = 11)  {t : Nat} {x3 : Int32} {x4 : Int32} {x5 : Int32} {x6 : Int32} {x7 : Int32} {x8 : Int32} (hf : f_X1_placeArguments_72 F K R a0  t I x3 x4 x5 x6 x7 x8 = some (r, I')) (hW : zS (zOwn B K (B + n)) D B n K I R s.heap H locs) (hl : lv_has ls 9 [(0, .ref (B + a0)), (3, .int x3), (4, .int x4), (5, .int x5), (6, .int x6), (7, .int x7), (8, .int x8)]) : W p l e ({ frames := 3, cells := 0, slots := 0, locals := 85 } : Room) s m args below meth c H locs 0 0 (MQ below (zQi D (zOwn B K (B + n)) r B n K I' R) args s 0 0 (zOwn B K (B + n))) (F0 m 72 ls []) := by
  have key : ∀ t : Nat, ∀ (I : zI) (x3 : Int32) (x4 : Int32) (x5 : Int32) (x6 : Int32) (x7 : Int32) (x8 : Int32) (H : Heap) (locs : List Loc) (ls : Array Slot), f_X1_placeArguments_72 F K R a0  t I x3 x4 x5 x6 x7 x8 = some (r, I') → zS (zOwn B K (B + n)) D B n K I R s.heap H locs → lv_has ls 9 [(0, .ref (B + a0)), (3, .int x3), (4, .int x4), (5, .int x5), (6, .int x6), (7, .int x7), (8, .int x8)] → W p l e ({ frames := 3, cells := 0, slots := 0, locals := 85 } : Room) s m args below meth c H locs 0 0 (MQ below (zQi D (zOwn B K (B + n)) r B n K I' R) args s 0 0 (zOwn B K (B + n))) (F0 m 72 ls []) := by
    intro t
    induction t with
    | zero =>
      intro I x3 x4 x5 x6 x7 x8 H locs ls hf hW hl
      cases hf
    | succ t ih =>
      intro I x3 x4 x5 x6 x7 x8 H locs ls hf hW hl
      exact wg_X1_placeArguments_72 X hr hlk hK0  ih hf hW hl
  exact key t _ _ _ _ _ _ _ _ _ _ hf hW hl
set_option maxRecDepth 100000 in
set_option maxHeartbeats 4000000 in
theorem w_X1_placeArguments_59 {F : Nat} {a0 : Nat}  (X : zX p s m c cX1_placeArguments 9 RX1 D) (hr : meth.sig.returnType = some .boolean) (hlk : meth.locks = false) (hK0 : (K a0).1 = 11)  {x1 : Int32} {x2 : Int32} {x3 : Int32} {x4 : Int32} {x5 : Int32} (hf : f_X1_placeArguments_59 F K R a0  I x1 x2 x3 x4 x5 = some (r, I')) (hW : zS (zOwn B K (B + n)) D B n K I R s.heap H locs) (hl : lv_has ls 9 [(0, .ref (B + a0)), (1, .int x1), (2, .int x2), (3, .int x3), (4, .int x4), (5, .int x5)]) : W p l e ({ frames := 3, cells := 0, slots := 0, locals := 85 } : Room) s m args below meth c H locs 0 0 (MQ below (zQi D (zOwn B K (B + n)) r B n K I' R) args s 0 0 (zOwn B K (B + n))) (F0 m 59 ls []) := by
  unfold f_X1_placeArguments_59 at hf
  refine lv_iload_n X.1 X.2.1 dX1_placeArguments_59 rfl (lv_at hl 1 rfl) ?_
  refine lv_iconst (v := 1) X.1 X.2.1 dX1_placeArguments_60 (by decide) ?_
  refine lv_iadd X.1 X.2.1 dX1_placeArguments_61 ?_
  refine ze_nm hf (fun v32 hg => ?_)
  replace hf := hg
  refine lv_istore (lv' := [(6, .int v32), (0, .ref (B + a0)), (1, .int x1), (2, .int x2), (3, .int x3), (4, .int x4), (5, .int x5)]) X.1 X.2.1 dX1_placeArguments_62 hl (by decide) rfl (fun ls hk => ?_)
  replace hl := hk
  refine lv_iload_n X.1 X.2.1 dX1_placeArguments_64 rfl (lv_at hl 3 rfl) ?_
  refine lv_iconst (v := 1) X.1 X.2.1 dX1_placeArguments_65 (by decide) ?_
  refine lv_iadd X.1 X.2.1 dX1_placeArguments_66 ?_
  refine ze_nm hf (fun v33 hg => ?_)
  replace hf := hg
  refine lv_istore (lv' := [(7, .int v33), (6, .int v32), (0, .ref (B + a0)), (1, .int x1), (2, .int x2), (3, .int x3), (4, .int x4), (5, .int x5)]) X.1 X.2.1 dX1_placeArguments_67 hl (by decide) rfl (fun ls hk => ?_)
  replace hl := hk
  refine lv_iconst (v := 0) X.1 X.2.1 dX1_placeArguments_69 (by decide) ?_
  refine lv_istore (lv' := [(8, .int (0 : Int32)), (7, .int v33), (6, .int v32), (0, .ref (B + a0)), (1, .int x1), (2, .int x2), (3, .int x3), (4, .int x4), (5, .int x5)]) X.1 X.2.1 dX1_placeArguments_70 hl (by decide) rfl (fun ls hk => ?_)
  replace hl := hk
  exact w_X1_placeArguments_72 X hr hlk hK0 hf hW (lv_sub hl [3, 6, 7, 8, 2, 1, 0] rfl)
set_option maxRecDepth 100000 in
set_option maxHeartbeats 4000000 in
theorem w_X1_placeArguments_39 {F : Nat} {a0 : Nat}  (X : zX p s m c cX1_placeArguments 9 RX1 D) (hr : meth.sig.returnType = some .boolean) (hlk : meth.locks = false) (hK0 : (K a0).1 = 11)  {x1 : Int32} {x2 : Int32} {x3 : Int32} {x4 : Int32} {s0 : Int32} {s1 : Int32} (hf : f_X1_placeArguments_39 F K R a0  I x1 x2 x3 x4 s0 s1 = some (r, I')) (hW : zS (zOwn B K (B + n)) D B n K I R s.heap H locs) (hl : lv_has ls 9 [(0, .ref (B + a0)), (1, .int x1), (2, .int x2), (3, .int x3), (4, .int x4)]) : W p l e ({ frames := 3, cells := 0, slots := 0, locals := 85 } : Room) s m args below meth c H locs 0 0 (MQ below (zQi D (zOwn B K (B + n)) r B n K I' R) args s 0 0 (zOwn B K (B + n))) (F0 m 39 ls [.int s1, .int s0]) := by
  unfold f_X1_placeArguments_39 at hf
  refine lv_iadd X.1 X.2.1 dX1_placeArguments_39 ?_
  refine ze_nm hf (fun v34 hg => ?_)
  replace hf := hg
  refine lv_istore (lv' := [(5, .int v34), (0, .ref (B + a0)), (1, .int x1), (2, .int x2), (3, .int x3), (4, .int x4)]) X.1 X.2.1 dX1_placeArguments_40 hl (by decide) rfl (fun ls hk => ?_)
  replace hl := hk
  refine lv_iload X.1 X.2.1 dX1_placeArguments_42 (lv_at hl 0 rfl) ?_
  refine lv_if_lt (tgt := 57) X.1 X.2.1 dX1_placeArguments_44 (by decide) (fun c35 => ?_) (fun c35 => ?_)
  · replace hf := zif_pos c35 hf
    refine lv_iconst (v := 0) X.1 X.2.1 dX1_placeArguments_57 (by decide) ?_
    obtain ⟨rfl, rfl⟩ := zi2 hf
    exact ze_retZ X hr hlk (by decide) hW (Nat.le_refl _) (Nat.le_refl _) dX1_placeArguments_58
  · replace hf := zif_neg c35 hf
    refine lv_iload X.1 X.2.1 dX1_placeArguments_47 (lv_at hl 5 rfl) ?_
    refine lv_if_ge (tgt := 59) X.1 X.2.1 dX1_placeArguments_49 (by decide) (fun c36 => ?_) (fun c36 => ?_)
    · replace hf := zif_pos c36 hf
      exact w_X1_placeArguments_59 X hr hlk hK0 hf hW (lv_sub hl [1, 2, 3, 4, 5, 0] rfl)
    · replace hf := zif_neg c36 hf
      refine lv_iload X.1 X.2.1 dX1_placeArguments_52 (lv_at hl 0 rfl) ?_
      refine lv_if_le (tgt := 59) X.1 X.2.1 dX1_placeArguments_54 (by decide) (fun c37 => ?_) (fun c37 => ?_)
      · replace hf := zif_pos c37 hf
        exact w_X1_placeArguments_59 X hr hlk hK0 hf hW (lv_sub hl [1, 2, 3, 4, 5, 0] rfl)
      · replace hf := zif_neg c37 hf
        refine lv_iconst (v := 0) X.1 X.2.1 dX1_placeArguments_57 (by decide) ?_
        obtain ⟨rfl, rfl⟩ := zi2 hf
        exact ze_retZ X hr hlk (by decide) hW (Nat.le_refl _) (Nat.le_refl _) dX1_placeArguments_58
set_option maxRecDepth 100000 in
set_option maxHeartbeats 4000000 in
theorem c_X1_placeArguments (l : Launch) (D : zD) (B n : Nat) {F : Nat} {K : zK} {I : zI} {R : zR} {a0 : Nat} {x1 : Int32} {x2 : Int32} {r : Int32} {I' : zI} (hK0 : (K a0).1 = 11) (hf : f_X1_placeArguments F K I R a0 x1 x2 = some (r, I')) : zM l yX1_placeArguments cX1_placeArguments 9 (some .boolean) ({ frames := 3, cells := 0, slots := 0, locals := 85 } : Room) D B n K I R [.ref (B + a0), .int x1, .int x2] (zQi D (zOwn B K (B + n)) r B n K I' R) := by
  refine ze_entry (lv0 := [(0, .ref (B + a0)), (1, .int x1), (2, .int x2)]) (by decide) (by simp [lg_sl, zcat, zcat_i, zcat_r, zcat_l]) (by simp [lv_args, zcat, zcat_i, zcat_r, zcat_l]) (fun p e s m below meth c X hr hlk hin hW ls hl => ?_)
  unfold f_X1_placeArguments at hf
  refine lv_aload_n X.1 X.2.1 dX1_placeArguments_0 rfl (lv_at hl 0 rfl) ?_
  refine ze_gtR X 1 0 12 (RX1, TX1, 8) rfl hf hW hK0 rfl (by decide) kfl_X1_12 dX1_placeArguments_1 (fun o38 hg => ?_)
  replace hf := hg
  refine lv_iload_n X.1 X.2.1 dX1_placeArguments_4 rfl (lv_at hl 1 rfl) ?_
  obtain ⟨a39, rfl, k41, hg⟩ := zh_dr hf
  replace hf := hg
  obtain ⟨v42, h43, hg⟩ := zh_bd hf
  replace hf := hg
  refine ze_aftI0 (ze_runV (As := [.int x1]) (rest := []) X 5 69 (c_X5_argumentsOf l D B n k41 h43) vX5_argumentsOf kml_X1_69 hW k41 rfl rfl ⟨by decide, by decide⟩ rfl hl.1 rfl (Nat.le_of_ble_eq_true rfl) ⟨Nat.le_refl _, Nat.le_refl _⟩ dX1_placeArguments_5) hW (fun H locs hV => ?_)
  replace hW := hV
  refine lv_istore_n (i := 3) (lv' := [(3, .int v42), (0, .ref (B + a0)), (1, .int x1), (2, .int x2)]) X.1 X.2.1 dX1_placeArguments_8 rfl hl (by decide) rfl (fun ls hk => ?_)
  replace hl := hk
  refine lv_aload_n X.1 X.2.1 dX1_placeArguments_9 rfl (lv_at hl 1 rfl) ?_
  refine ze_gtR X 1 0 12 (RX1, TX1, 8) rfl hf hW hK0 rfl (by decide) kfl_X1_12 dX1_placeArguments_10 (fun o44 hg => ?_)
  replace hf := hg
  refine lv_iload_n X.1 X.2.1 dX1_placeArguments_13 rfl (lv_at hl 2 rfl) ?_
  obtain ⟨a45, rfl, k47, hg⟩ := zh_dr hf
  replace hf := hg
  obtain ⟨v48, h49, hg⟩ := zh_bd hf
  replace hf := hg
  refine ze_aftI0 (ze_runV (As := [.int x1]) (rest := []) X 5 72 (c_X5_sequencePlace l D B n k47 h49) vX5_sequencePlace kml_X1_72 hW k47 rfl rfl ⟨by decide, by decide⟩ rfl hl.1 rfl (Nat.le_of_ble_eq_true rfl) ⟨Nat.le_refl _, Nat.le_refl _⟩ dX1_placeArguments_14) hW (fun H locs hV => ?_)
  replace hW := hV
  refine lv_istore (lv' := [(4, .int v48), (3, .int v42), (0, .ref (B + a0)), (1, .int x1), (2, .int x2)]) X.1 X.2.1 dX1_placeArguments_17 hl (by decide) rfl (fun ls hk => ?_)
  replace hl := hk
  refine lv_aload_n X.1 X.2.1 dX1_placeArguments_19 rfl (lv_at hl 2 rfl) ?_
  refine ze_gtR X 1 1 18 (RX1, TX1, 8) rfl hf hW hK0 rfl (by decide) kfl_X1_18 dX1_placeArguments_20 (fun o50 hg => ?_)
  replace hf := hg
  refine lv_iload_n X.1 X.2.1 dX1_placeArguments_23 rfl (lv_at hl 4 rfl) ?_
  obtain ⟨a51, rfl, k53, hg⟩ := zh_dr hf
  replace hf := hg
  obtain ⟨v54, h55, hg⟩ := zh_bd hf
  replace hf := hg
  refine ze_aftI0 (ze_runV (As := [.int x2]) (rest := []) X 5 69 (c_X5_argumentsOf l D B n k53 h55) vX5_argumentsOf kml_X1_69 hW k53 rfl rfl ⟨by decide, by decide⟩ rfl hl.1 rfl (Nat.le_of_ble_eq_true rfl) ⟨Nat.le_refl _, Nat.le_refl _⟩ dX1_placeArguments_24) hW (fun H locs hV => ?_)
  replace hW := hV
  refine lv_iload_n X.1 X.2.1 dX1_placeArguments_27 rfl (lv_at hl 1 rfl) ?_
  refine lv_isub X.1 X.2.1 dX1_placeArguments_28 ?_
  refine lv_iload X.1 X.2.1 dX1_placeArguments_29 (lv_at hl 0 rfl) ?_
  refine lv_if_lt (tgt := 38) X.1 X.2.1 dX1_placeArguments_31 (by decide) (fun c56 => ?_) (fun c56 => ?_)
  · replace hf := zif_pos c56 hf
    refine lv_iconst (v := 0) X.1 X.2.1 dX1_placeArguments_38 (by decide) ?_
    exact w_X1_placeArguments_39 X hr hlk hK0 hf hW (lv_sub hl [2, 3, 4, 1, 0] rfl)
  · replace hf := zif_neg c56 hf
    refine lv_iconst (v := 1) X.1 X.2.1 dX1_placeArguments_34 (by decide) ?_
    refine lv_goto (tgt := 39) X.1 X.2.1 dX1_placeArguments_35 (by decide) ?_
    exact w_X1_placeArguments_39 X hr hlk hK0 hf hW (lv_sub hl [2, 3, 4, 1, 0] rfl)
end

/-! LeastPatterns$Matcher.matchNode(II)Z -/
def f_X1_matchNode_111 (F : Nat) (K : zK) (R : zR) (a0 : Nat)  (I : zI) (x1 : Int32) (x2 : Int32) : Option (Int32 × zI) :=
  zbd2 (f_X1_fill F K I R a0 x1 x2 (1 : Int32)) fun v1 I2 =>
  if v1 = (0 : Int32) then
    some ((0 : Int32), I2)
  else
    zbd2 (f_X1_placeArguments F K I2 R a0 x1 x2) fun v5 I6 =>
    if v5 = (0 : Int32) then
      some ((0 : Int32), I6)
    else
      some ((1 : Int32), I6)
def f_X1_matchNode (F : Nat) (K : zK) (I : zI) (R : zR) (a0 : Nat) (x1 : Int32) (x2 : Int32) : Option (Int32 × zI) :=
  zbd (some (R a0 1)) fun o9 =>
  zbd (zdr K o9 15) fun a10 =>
  zbd (f_X5_sortOf F K I R a10 x2) fun v13 =>
  zbd (some (R a0 0)) fun o15 =>
  zbd (zdr K o15 15) fun a16 =>
  zbd (f_X5_sortOf F K I R a16 x1) fun v19 =>
  if v19 = 1 then
    if v13 = (-1 : Int32) then
      some ((0 : Int32), I)
    else
      if v13 = (3 : Int32) then
        some ((0 : Int32), I)
      else
        zbd (some (R a0 1)) fun o23 =>
        zbd (zdr K o23 15) fun a24 =>
        zbd (f_X5_spanOf F K I R a24 x2) fun v27 =>
        zbd2 (f_X1_fill F K I R a0 x1 x2 v27) fun v29 I30 =>
        if v29 = (0 : Int32) then
          some ((0 : Int32), I30)
        else
          some ((1 : Int32), I30)
  else
  if v19 = 2 then
    if v13 = (0 : Int32) then
      f_X1_matchNode_111 F K R a0 I x1 x2
    else
      if v13 = (2 : Int32) then
        f_X1_matchNode_111 F K R a0 I x1 x2
      else
        some ((0 : Int32), I)
  else
  if v19 = 3 then
    zbd (some (R a0 1)) fun o37 =>
    zbd (some (R a0 3)) fun o38 =>
    zbd (zdr K o38 1) fun a39 =>
    zbd (zrd K I a39 x1) fun v42 =>
    zbd (zdr K o37 15) fun a43 =>
    zbd (f_X5_argument F K I R a43 (x2 - (1 : Int32)) v42) fun v46 =>
    zbd2 (f_X1_fill F K I R a0 x1 x2 (v46 - x2)) fun v48 I49 =>
    if v48 = 0 ∨ v48 = 1 then
    some (v48, I49)
    else
    none
  else
    zbd (some (R a0 0)) fun o53 =>
    zbd (zdr K o53 15) fun a54 =>
    zbd (f_X5_headOf F K I R a54 x1) fun v57 =>
    zbd (some (R a0 1)) fun o59 =>
    zbd (zdr K o59 15) fun a60 =>
    zbd (f_X5_headOf F K I R a60 x2) fun v63 =>
    if v57 = v63 then
      zbd2 (f_X1_placeArguments F K I R a0 x1 x2) fun v66 I67 =>
      if v66 = (0 : Int32) then
        some ((0 : Int32), I67)
      else
        some ((1 : Int32), I67)
    else
      some ((0 : Int32), I)
section
variable {p : Program} {l : Launch} {e : Env} {s : State} {m : MethodId} {args : Array Value} {below : List Frame} {meth : Method} {c : Code} {D : zD} {B n n0 n' fd ld : Nat} {K K0 K' : zK} {I I' : zI} {R R' : zR} {H : Heap} {locs : List Loc} {ls : Array Slot} {r : Int32}
set_option maxRecDepth 100000 in
set_option maxHeartbeats 4000000 in
theorem w_X1_matchNode_111 {F : Nat} {a0 : Nat}  (X : zX p s m c cX1_matchNode 4 RX1 D) (hr : meth.sig.returnType = some .boolean) (hlk : meth.locks = false) (hK0 : (K a0).1 = 11)  {x1 : Int32} {x2 : Int32} (hf : f_X1_matchNode_111 F K R a0  I x1 x2 = some (r, I')) (hW : zS (zOwn B K (B + n)) D B n K I R s.heap H locs) (hl : lv_has ls 4 [(0, .ref (B + a0)), (1, .int x1), (2, .int x2)]) : W p l e ({ frames := 4, cells := 0, slots := 0, locals := 113 } : Room) s m args below meth c H locs 0 0 (MQ below (zQi D (zOwn B K (B + n)) r B n K I' R) args s 0 0 (zOwn B K (B + n))) (F0 m 111 ls []) := by
  unfold f_X1_matchNode_111 at hf
  refine lv_aload_n X.1 X.2.1 dX1_matchNode_111 rfl (lv_at hl 0 rfl) ?_
  refine lv_iload_n X.1 X.2.1 dX1_matchNode_112 rfl (lv_at hl 1 rfl) ?_
  refine lv_iload_n X.1 X.2.1 dX1_matchNode_113 rfl (lv_at hl 2 rfl) ?_
  refine lv_iconst (v := 1) X.1 X.2.1 dX1_matchNode_114 (by decide) ?_
  obtain ⟨v1, I2, h3, hg⟩ := zh_bd2 hf
  replace hf := hg
  refine ze_aftI0 (ze_runV (As := [.int x1, .int x2, .int (1 : Int32)]) (rest := []) X 1 56 (c_X1_fill l D B n hK0 h3) vX1_fill kml_X1_56 hW hK0 rfl rfl ⟨by decide, by decide⟩ rfl hl.1 rfl (Nat.le_of_ble_eq_true rfl) ⟨Nat.le_refl _, Nat.le_refl _⟩ dX1_matchNode_115) hW (fun H locs hV => ?_)
  replace hW := hV
  refine lv_if_eq (tgt := 134) X.1 X.2.1 dX1_matchNode_118 (by decide) (fun c4 => ?_) (fun c4 => ?_)
  · replace hf := zif_pos c4 hf
    refine lv_iconst (v := 0) X.1 X.2.1 dX1_matchNode_134 (by decide) ?_
    obtain ⟨rfl, rfl⟩ := zi2 hf
    exact ze_retZ X hr hlk (by decide) hW (Nat.le_refl _) (Nat.le_refl _) dX1_matchNode_135
  · replace hf := zif_neg c4 hf
    refine lv_aload_n X.1 X.2.1 dX1_matchNode_121 rfl (lv_at hl 0 rfl) ?_
    refine lv_iload_n X.1 X.2.1 dX1_matchNode_122 rfl (lv_at hl 1 rfl) ?_
    refine lv_iload_n X.1 X.2.1 dX1_matchNode_123 rfl (lv_at hl 2 rfl) ?_
    obtain ⟨v5, I6, h7, hg⟩ := zh_bd2 hf
    replace hf := hg
    refine ze_aftI0 (ze_runV (As := [.int x1, .int x2]) (rest := []) X 1 63 (c_X1_placeArguments l D B n hK0 h7) vX1_placeArguments kml_X1_63 hW hK0 rfl rfl ⟨by decide, by decide⟩ rfl hl.1 rfl (Nat.le_of_ble_eq_true rfl) ⟨Nat.le_refl _, Nat.le_refl _⟩ dX1_matchNode_124) hW (fun H locs hV => ?_)
    replace hW := hV
    refine lv_if_eq (tgt := 134) X.1 X.2.1 dX1_matchNode_127 (by decide) (fun c8 => ?_) (fun c8 => ?_)
    · replace hf := zif_pos c8 hf
      refine lv_iconst (v := 0) X.1 X.2.1 dX1_matchNode_134 (by decide) ?_
      obtain ⟨rfl, rfl⟩ := zi2 hf
      exact ze_retZ X hr hlk (by decide) hW (Nat.le_refl _) (Nat.le_refl _) dX1_matchNode_135
    · replace hf := zif_neg c8 hf
      refine lv_iconst (v := 1) X.1 X.2.1 dX1_matchNode_130 (by decide) ?_
      refine lv_goto (tgt := 135) X.1 X.2.1 dX1_matchNode_131 (by decide) ?_
      obtain ⟨rfl, rfl⟩ := zi2 hf
      exact ze_retZ X hr hlk (by decide) hW (Nat.le_refl _) (Nat.le_refl _) dX1_matchNode_135
set_option maxRecDepth 100000 in
set_option maxHeartbeats 4000000 in
theorem c_X1_matchNode (l : Launch) (D : zD) (B n : Nat) {F : Nat} {K : zK} {I : zI} {R : zR} {a0 : Nat} {x1 : Int32} {x2 : Int32} {r : Int32} {I' : zI} (hK0 : (K a0).1 = 11) (hf : f_X1_matchNode F K I R a0 x1 x2 = some (r, I')) : zM l yX1_matchNode cX1_matchNode 4 (some .boolean) ({ frames := 4, cells := 0, slots := 0, locals := 113 } : Room) D B n K I R [.ref (B + a0), .int x1, .int x2] (zQi D (zOwn B K (B + n)) r B n K I' R) := by
  refine ze_entry (lv0 := [(0, .ref (B + a0)), (1, .int x1), (2, .int x2)]) (by decide) (by simp [lg_sl, zcat, zcat_i, zcat_r, zcat_l]) (by simp [lv_args, zcat, zcat_i, zcat_r, zcat_l]) (fun p e s m below meth c X hr hlk hin hW ls hl => ?_)
  unfold f_X1_matchNode at hf
  refine lv_aload_n X.1 X.2.1 dX1_matchNode_0 rfl (lv_at hl 0 rfl) ?_
  refine ze_gtR X 1 1 18 (RX1, TX1, 8) rfl hf hW hK0 rfl (by decide) kfl_X1_18 dX1_matchNode_1 (fun o9 hg => ?_)
  replace hf := hg
  refine lv_iload_n X.1 X.2.1 dX1_matchNode_4 rfl (lv_at hl 2 rfl) ?_
  obtain ⟨a10, rfl, k12, hg⟩ := zh_dr hf
  replace hf := hg
  obtain ⟨v13, h14, hg⟩ := zh_bd hf
  replace hf := hg
  refine ze_aftI0 (ze_runV (As := [.int x2]) (rest := []) X 5 48 (c_X5_sortOf l D B n k12 h14) vX5_sortOf kml_X1_48 hW k12 rfl rfl ⟨by decide, by decide⟩ rfl hl.1 rfl (Nat.le_of_ble_eq_true rfl) ⟨Nat.le_refl _, Nat.le_refl _⟩ dX1_matchNode_5) hW (fun H locs hV => ?_)
  replace hW := hV
  refine lv_istore_n (i := 3) (lv' := [(3, .int v13), (0, .ref (B + a0)), (1, .int x1), (2, .int x2)]) X.1 X.2.1 dX1_matchNode_8 rfl hl (by decide) rfl (fun ls hk => ?_)
  replace hl := hk
  refine lv_aload_n X.1 X.2.1 dX1_matchNode_9 rfl (lv_at hl 1 rfl) ?_
  refine ze_gtR X 1 0 12 (RX1, TX1, 8) rfl hf hW hK0 rfl (by decide) kfl_X1_12 dX1_matchNode_10 (fun o15 hg => ?_)
  replace hf := hg
  refine lv_iload_n X.1 X.2.1 dX1_matchNode_13 rfl (lv_at hl 2 rfl) ?_
  obtain ⟨a16, rfl, k18, hg⟩ := zh_dr hf
  replace hf := hg
  obtain ⟨v19, h20, hg⟩ := zh_bd hf
  replace hf := hg
  refine ze_aftI0 (ze_runV (As := [.int x1]) (rest := []) X 5 48 (c_X5_sortOf l D B n k18 h20) vX5_sortOf kml_X1_48 hW k18 rfl rfl ⟨by decide, by decide⟩ rfl hl.1 rfl (Nat.le_of_ble_eq_true rfl) ⟨Nat.le_refl _, Nat.le_refl _⟩ dX1_matchNode_14) hW (fun H locs hV => ?_)
  replace hW := hV
  by_cases c33 : v19 = 1
  · replace hf := zif_pos c33 hf
    refine lv_tableIn (tgt := 69) X.1 X.2.1 dX1_matchNode_17 (by rw [c33]; decide) (by rw [c33]; decide) (by rw [c33]; rfl) (by decide) ?_
    refine lv_iload_n X.1 X.2.1 dX1_matchNode_69 rfl (lv_at hl 0 rfl) ?_
    refine lv_iconst (v := -1) X.1 X.2.1 dX1_matchNode_70 (by decide) ?_
    refine lv_icmp_eq (tgt := 100) X.1 X.2.1 dX1_matchNode_71 (by decide) (fun c21 => ?_) (fun c21 => ?_)
    · replace hf := zif_pos c21 hf
      refine lv_iconst (v := 0) X.1 X.2.1 dX1_matchNode_100 (by decide) ?_
      obtain ⟨rfl, rfl⟩ := zi2 hf
      exact ze_retZ X hr hlk (by decide) hW (Nat.le_refl _) (Nat.le_refl _) dX1_matchNode_101
    · replace hf := zif_neg c21 hf
      refine lv_iload_n X.1 X.2.1 dX1_matchNode_74 rfl (lv_at hl 0 rfl) ?_
      refine lv_iconst (v := 3) X.1 X.2.1 dX1_matchNode_75 (by decide) ?_
      refine lv_icmp_eq (tgt := 100) X.1 X.2.1 dX1_matchNode_76 (by decide) (fun c22 => ?_) (fun c22 => ?_)
      · replace hf := zif_pos c22 hf
        refine lv_iconst (v := 0) X.1 X.2.1 dX1_matchNode_100 (by decide) ?_
        obtain ⟨rfl, rfl⟩ := zi2 hf
        exact ze_retZ X hr hlk (by decide) hW (Nat.le_refl _) (Nat.le_refl _) dX1_matchNode_101
      · replace hf := zif_neg c22 hf
        refine lv_aload_n X.1 X.2.1 dX1_matchNode_79 rfl (lv_at hl 1 rfl) ?_
        refine lv_iload_n X.1 X.2.1 dX1_matchNode_80 rfl (lv_at hl 2 rfl) ?_
        refine lv_iload_n X.1 X.2.1 dX1_matchNode_81 rfl (lv_at hl 3 rfl) ?_
        refine lv_aload_n X.1 X.2.1 dX1_matchNode_82 rfl (lv_at hl 1 rfl) ?_
        refine ze_gtR X 1 1 18 (RX1, TX1, 8) rfl hf hW hK0 rfl (by decide) kfl_X1_18 dX1_matchNode_83 (fun o23 hg => ?_)
        replace hf := hg
        refine lv_iload_n X.1 X.2.1 dX1_matchNode_86 rfl (lv_at hl 3 rfl) ?_
        obtain ⟨a24, rfl, k26, hg⟩ := zh_dr hf
        replace hf := hg
        obtain ⟨v27, h28, hg⟩ := zh_bd hf
        replace hf := hg
        refine ze_aftI0 (ze_runV (As := [.int x2]) (rest := [.int x2, .int x1, .ref (B + a0)]) X 5 60 (c_X5_spanOf l D B n k26 h28) vX5_spanOf kml_X1_60 hW k26 rfl rfl ⟨by decide, by decide⟩ rfl hl.1 rfl (Nat.le_of_ble_eq_true rfl) ⟨Nat.le_refl _, Nat.le_refl _⟩ dX1_matchNode_87) hW (fun H locs hV => ?_)
        replace hW := hV
        obtain ⟨v29, I30, h31, hg⟩ := zh_bd2 hf
        replace hf := hg
        refine ze_aftI0 (ze_runV (As := [.int x1, .int x2, .int v27]) (rest := []) X 1 56 (c_X1_fill l D B n hK0 h31) vX1_fill kml_X1_56 hW hK0 rfl rfl ⟨by decide, by decide⟩ rfl hl.1 rfl (Nat.le_of_ble_eq_true rfl) ⟨Nat.le_refl _, Nat.le_refl _⟩ dX1_matchNode_90) hW (fun H locs hV => ?_)
        replace hW := hV
        refine lv_if_eq (tgt := 100) X.1 X.2.1 dX1_matchNode_93 (by decide) (fun c32 => ?_) (fun c32 => ?_)
        · replace hf := zif_pos c32 hf
          refine lv_iconst (v := 0) X.1 X.2.1 dX1_matchNode_100 (by decide) ?_
          obtain ⟨rfl, rfl⟩ := zi2 hf
          exact ze_retZ X hr hlk (by decide) hW (Nat.le_refl _) (Nat.le_refl _) dX1_matchNode_101
        · replace hf := zif_neg c32 hf
          refine lv_iconst (v := 1) X.1 X.2.1 dX1_matchNode_96 (by decide) ?_
          refine lv_goto (tgt := 101) X.1 X.2.1 dX1_matchNode_97 (by decide) ?_
          obtain ⟨rfl, rfl⟩ := zi2 hf
          exact ze_retZ X hr hlk (by decide) hW (Nat.le_refl _) (Nat.le_refl _) dX1_matchNode_101
  replace hf := zif_neg c33 hf
  by_cases c36 : v19 = 2
  · replace hf := zif_pos c36 hf
    refine lv_tableIn (tgt := 102) X.1 X.2.1 dX1_matchNode_17 (by rw [c36]; decide) (by rw [c36]; decide) (by rw [c36]; rfl) (by decide) ?_
    refine lv_iload_n X.1 X.2.1 dX1_matchNode_102 rfl (lv_at hl 0 rfl) ?_
    refine lv_if_eq (tgt := 111) X.1 X.2.1 dX1_matchNode_103 (by decide) (fun c34 => ?_) (fun c34 => ?_)
    · replace hf := zif_pos c34 hf
      exact w_X1_matchNode_111 X hr hlk hK0 hf hW (lv_sub hl [1, 2, 3] rfl)
    · replace hf := zif_neg c34 hf
      refine lv_iload_n X.1 X.2.1 dX1_matchNode_106 rfl (lv_at hl 0 rfl) ?_
      refine lv_iconst (v := 2) X.1 X.2.1 dX1_matchNode_107 (by decide) ?_
      refine lv_icmp_ne (tgt := 134) X.1 X.2.1 dX1_matchNode_108 (by decide) (fun c35 => ?_) (fun c35 => ?_)
      · replace hf := zif_neg c35 hf
        refine lv_iconst (v := 0) X.1 X.2.1 dX1_matchNode_134 (by decide) ?_
        obtain ⟨rfl, rfl⟩ := zi2 hf
        exact ze_retZ X hr hlk (by decide) hW (Nat.le_refl _) (Nat.le_refl _) dX1_matchNode_135
      · replace hf := zif_pos c35 hf
        exact w_X1_matchNode_111 X hr hlk hK0 hf hW (lv_sub hl [1, 2, 3] rfl)
  replace hf := zif_neg c36 hf
  by_cases c52 : v19 = 3
  · replace hf := zif_pos c52 hf
    refine lv_tableIn (tgt := 44) X.1 X.2.1 dX1_matchNode_17 (by rw [c52]; decide) (by rw [c52]; decide) (by rw [c52]; rfl) (by decide) ?_
    refine lv_aload_n X.1 X.2.1 dX1_matchNode_44 rfl (lv_at hl 1 rfl) ?_
    refine lv_iload_n X.1 X.2.1 dX1_matchNode_45 rfl (lv_at hl 2 rfl) ?_
    refine lv_iload_n X.1 X.2.1 dX1_matchNode_46 rfl (lv_at hl 3 rfl) ?_
    refine lv_aload_n X.1 X.2.1 dX1_matchNode_47 rfl (lv_at hl 1 rfl) ?_
    refine ze_gtR X 1 1 18 (RX1, TX1, 8) rfl hf hW hK0 rfl (by decide) kfl_X1_18 dX1_matchNode_48 (fun o37 hg => ?_)
    replace hf := hg
    refine lv_iload_n X.1 X.2.1 dX1_matchNode_51 rfl (lv_at hl 3 rfl) ?_
    refine lv_iconst (v := 1) X.1 X.2.1 dX1_matchNode_52 (by decide) ?_
    refine lv_isub X.1 X.2.1 dX1_matchNode_53 ?_
    refine lv_aload_n X.1 X.2.1 dX1_matchNode_54 rfl (lv_at hl 1 rfl) ?_
    refine ze_gtR X 1 3 25 (RX1, TX1, 8) rfl hf hW hK0 rfl (by decide) kfl_X1_25 dX1_matchNode_55 (fun o38 hg => ?_)
    replace hf := hg
    refine lv_iload_n X.1 X.2.1 dX1_matchNode_58 rfl (lv_at hl 2 rfl) ?_
    obtain ⟨a39, rfl, k41, hg⟩ := zh_dr hf
    replace hf := hg
    refine ze_iald X hf hW k41 dX1_matchNode_59 (fun v42 hg => ?_)
    replace hf := hg
    obtain ⟨a43, rfl, k45, hg⟩ := zh_dr hf
    replace hf := hg
    obtain ⟨v46, h47, hg⟩ := zh_bd hf
    replace hf := hg
    refine ze_aftI0 (ze_runV (As := [.int (x2 - (1 : Int32)), .int v42]) (rest := [.int x2, .int x1, .ref (B + a0)]) X 5 52 (c_X5_argument l D B n k45 h47) vX5_argument kml_X1_52 hW k45 rfl rfl ⟨by decide, by decide⟩ rfl hl.1 rfl (Nat.le_of_ble_eq_true rfl) ⟨Nat.le_refl _, Nat.le_refl _⟩ dX1_matchNode_60) hW (fun H locs hV => ?_)
    replace hW := hV
    refine lv_iload_n X.1 X.2.1 dX1_matchNode_63 rfl (lv_at hl 3 rfl) ?_
    refine lv_isub X.1 X.2.1 dX1_matchNode_64 ?_
    obtain ⟨v48, I49, h50, hg⟩ := zh_bd2 hf
    replace hf := hg
    refine ze_aftI0 (ze_runV (As := [.int x1, .int x2, .int (v46 - x2)]) (rest := []) X 1 56 (c_X1_fill l D B n hK0 h50) vX1_fill kml_X1_56 hW hK0 rfl rfl ⟨by decide, by decide⟩ rfl hl.1 rfl (Nat.le_of_ble_eq_true rfl) ⟨Nat.le_refl _, Nat.le_refl _⟩ dX1_matchNode_65) hW (fun H locs hV => ?_)
    replace hW := hV
    obtain ⟨hv51, hg⟩ := zh_if hf
    replace hf := hg
    obtain ⟨rfl, rfl⟩ := zi2 hf
    exact ze_retZ X hr hlk hv51 hW (Nat.le_refl _) (Nat.le_refl _) dX1_matchNode_68
  replace hf := zif_neg c52 hf
  refine lv_tableOut (tgt := 136) X.1 X.2.1 dX1_matchNode_17 ?_ (by decide) ?_
  · have hne : ∀ k : Int32, ¬ v19 = k → v19.toInt ≠ k.toInt := fun k h q => h (Int32.toInt_inj.mp q)
    have qc33 := hne 1 c33
    have qc36 := hne 2 c36
    have qc52 := hne 3 c52
    simp at qc33 qc36 qc52
    omega
  · refine lv_aload_n X.1 X.2.1 dX1_matchNode_136 rfl (lv_at hl 1 rfl) ?_
    refine ze_gtR X 1 0 12 (RX1, TX1, 8) rfl hf hW hK0 rfl (by decide) kfl_X1_12 dX1_matchNode_137 (fun o53 hg => ?_)
    replace hf := hg
    refine lv_iload_n X.1 X.2.1 dX1_matchNode_140 rfl (lv_at hl 2 rfl) ?_
    obtain ⟨a54, rfl, k56, hg⟩ := zh_dr hf
    replace hf := hg
    obtain ⟨v57, h58, hg⟩ := zh_bd hf
    replace hf := hg
    refine ze_aftI0 (ze_runV (As := [.int x1]) (rest := []) X 5 66 (c_X5_headOf l D B n k56 h58) vX5_headOf kml_X1_66 hW k56 rfl rfl ⟨by decide, by decide⟩ rfl hl.1 rfl (Nat.le_of_ble_eq_true rfl) ⟨Nat.le_refl _, Nat.le_refl _⟩ dX1_matchNode_141) hW (fun H locs hV => ?_)
    replace hW := hV
    refine lv_aload_n X.1 X.2.1 dX1_matchNode_144 rfl (lv_at hl 1 rfl) ?_
    refine ze_gtR X 1 1 18 (RX1, TX1, 8) rfl hf hW hK0 rfl (by decide) kfl_X1_18 dX1_matchNode_145 (fun o59 hg => ?_)
    replace hf := hg
    refine lv_iload_n X.1 X.2.1 dX1_matchNode_148 rfl (lv_at hl 3 rfl) ?_
    obtain ⟨a60, rfl, k62, hg⟩ := zh_dr hf
    replace hf := hg
    obtain ⟨v63, h64, hg⟩ := zh_bd hf
    replace hf := hg
    refine ze_aftI0 (ze_runV (As := [.int x2]) (rest := [.int v57]) X 5 66 (c_X5_headOf l D B n k62 h64) vX5_headOf kml_X1_66 hW k62 rfl rfl ⟨by decide, by decide⟩ rfl hl.1 rfl (Nat.le_of_ble_eq_true rfl) ⟨Nat.le_refl _, Nat.le_refl _⟩ dX1_matchNode_149) hW (fun H locs hV => ?_)
    replace hW := hV
    refine lv_icmp_ne (tgt := 168) X.1 X.2.1 dX1_matchNode_152 (by decide) (fun c65 => ?_) (fun c65 => ?_)
    · replace hf := zif_neg c65 hf
      refine lv_iconst (v := 0) X.1 X.2.1 dX1_matchNode_168 (by decide) ?_
      obtain ⟨rfl, rfl⟩ := zi2 hf
      exact ze_retZ X hr hlk (by decide) hW (Nat.le_refl _) (Nat.le_refl _) dX1_matchNode_169
    · replace hf := zif_pos c65 hf
      refine lv_aload_n X.1 X.2.1 dX1_matchNode_155 rfl (lv_at hl 1 rfl) ?_
      refine lv_iload_n X.1 X.2.1 dX1_matchNode_156 rfl (lv_at hl 2 rfl) ?_
      refine lv_iload_n X.1 X.2.1 dX1_matchNode_157 rfl (lv_at hl 3 rfl) ?_
      obtain ⟨v66, I67, h68, hg⟩ := zh_bd2 hf
      replace hf := hg
      refine ze_aftI0 (ze_runV (As := [.int x1, .int x2]) (rest := []) X 1 63 (c_X1_placeArguments l D B n hK0 h68) vX1_placeArguments kml_X1_63 hW hK0 rfl rfl ⟨by decide, by decide⟩ rfl hl.1 rfl (Nat.le_of_ble_eq_true rfl) ⟨Nat.le_refl _, Nat.le_refl _⟩ dX1_matchNode_158) hW (fun H locs hV => ?_)
      replace hW := hV
      refine lv_if_eq (tgt := 168) X.1 X.2.1 dX1_matchNode_161 (by decide) (fun c69 => ?_) (fun c69 => ?_)
      · replace hf := zif_pos c69 hf
        refine lv_iconst (v := 0) X.1 X.2.1 dX1_matchNode_168 (by decide) ?_
        obtain ⟨rfl, rfl⟩ := zi2 hf
        exact ze_retZ X hr hlk (by decide) hW (Nat.le_refl _) (Nat.le_refl _) dX1_matchNode_169
      · replace hf := zif_neg c69 hf
        refine lv_iconst (v := 1) X.1 X.2.1 dX1_matchNode_164 (by decide) ?_
        refine lv_goto (tgt := 169) X.1 X.2.1 dX1_matchNode_165 (by decide) ?_
        obtain ⟨rfl, rfl⟩ := zi2 hf
        exact ze_retZ X hr hlk (by decide) hW (Nat.le_refl _) (Nat.le_refl _) dX1_matchNode_169
end

/-! LeastPatterns$Matcher.matches(LLeastPatterns$Term;LLeastPatterns$Term;)Z -/
def g_X1_matches_47 (F : Nat) (K : zK) (a0 : Nat)  (kself : zI → zR → Option Nat → Int32 → Option (Int32 × zI × zR)) (I : zI) (R : zR) (x1 : Option Nat) (x3 : Int32) : Option (Int32 × zI × zR) :=
  zbd (zdr K x1 15) fun a1 =>
  if (I a1 3) ≤ x3 then
    some ((1 : Int32), I, R)
  else
    if (32 : Int32) ≤ x3 then
      some ((1 : Int32), I, R)
    else
      zbd (some (R a0 2)) fun o6 =>
      zbd (zdr K o6 1) fun a7 =>
      zbd (zrd K I a7 x3) fun v10 =>
      zbd2 (f_X1_matchNode F K I R a0 x3 v10) fun v11 I12 =>
      if v11 = (0 : Int32) then
        some ((0 : Int32), I12, R)
      else
        kself I12 R (some a1) (x3 + (1 : Int32))
def f_X1_matches_47 (F : Nat) (K : zK) (a0 : Nat)  : Nat → zI → zR → Option Nat → Int32 → Option (Int32 × zI × zR)
  | 0, _, _, _, _ => none
  | t + 1, I, R, x1, x3 => g_X1_matches_47 F K a0  (f_X1_matches_47 F K a0  t) I R x1 x3
def g_X1_matches_12 (F : Nat) (K : zK) (a0 : Nat)  (kself : zI → zR → Option Nat → Int32 → Option (Int32 × zI × zR)) (I : zI) (R : zR) (x1 : Option Nat) (x3 : Int32) : Option (Int32 × zI × zR) :=
  if (10 : Int32) ≤ x3 then
    zbd (some (R a0 2)) fun o16 =>
    zbd (zdr K o16 1) fun a17 =>
    zbd (zwr K I a17 (0 : Int32) (0 : Int32)) fun I20 =>
    zbd (some (R a0 3)) fun o21 =>
    zbd (zdr K o21 1) fun a22 =>
    zbd (zwr K I20 a22 (0 : Int32) (1 : Int32)) fun I25 =>
    f_X1_matches_47 F K a0 F I25 R x1 (0 : Int32)
  else
    zbd (some (R a0 4)) fun o26 =>
    zbd (zdr K o26 1) fun a27 =>
    zbd (zwr K I a27 x3 (-1 : Int32)) fun I30 =>
    kself I30 R x1 (x3 + (1 : Int32))
def f_X1_matches_12 (F : Nat) (K : zK) (a0 : Nat)  : Nat → zI → zR → Option Nat → Int32 → Option (Int32 × zI × zR)
  | 0, _, _, _, _ => none
  | t + 1, I, R, x1, x3 => g_X1_matches_12 F K a0  (f_X1_matches_12 F K a0  t) I R x1 x3
def f_X1_matches (F : Nat) (K : zK) (I : zI) (R : zR) (a0 : Nat) (x1 : Option Nat) (x2 : Option Nat) : Option (Int32 × zI × zR) :=
  zbd (some (zup R a0 0 x1)) fun R31 =>
  zbd (some (zup R31 a0 1 x2)) fun R32 =>
  f_X1_matches_12 F K a0 F I R32 x1 (0 : Int32)
section
variable {p : Program} {l : Launch} {e : Env} {s : State} {m : MethodId} {args : Array Value} {below : List Frame} {meth : Method} {c : Code} {D : zD} {B n n0 n' fd ld : Nat} {K K0 K' : zK} {I I' : zI} {R R' : zR} {H : Heap} {locs : List Loc} {ls : Array Slot} {r : Int32}
set_option maxRecDepth 100000 in
set_option maxHeartbeats 4000000 in
theorem wg_X1_matches_47 {F : Nat} {a0 : Nat}  (X : zX p s m c cX1_matches 4 RX1 D) (hr : meth.sig.returnType = some .boolean) (hlk : meth.locks = false) (hK0 : (K a0).1 = 11)  {kself : zI → zR → Option Nat → Int32 → Option (Int32 × zI × zR)} (hkself : ∀ (I : zI) (R : zR) (x1 : Option Nat) (x3 : Int32) (H : Heap) (locs : List Loc) (ls : Array Slot), kself I R x1 x3 = some (r, I', R') → zS (zOwn B K (B + n)) D B n K I R s.heap H locs → lv_has ls 4 [(0, .ref (B + a0)), (1, zrf B x1), (3, .int x3)] → W p l e ({ frames := 5, cells := 0, slots := 0, locals := 136 } : Room) s m args below meth c H locs 0 0 (MQ below (zQi D (zOwn B K (B + n)) r B n K I' R') args s 0 0 (zOwn B K (B + n))) (F0 m 47 ls [])) {x1 : Option Nat} {x3 : Int32} (hf : g_X1_matches_47 F K a0  kself I R x1 x3 = some (r, I', R')) (hW : zS (zOwn B K (B + n)) D B n K I R s.heap H locs) (hl : lv_has ls 4 [(0, .ref (B + a0)), (1, zrf B x1), (3, .int x3)]) : W p l e ({ frames := 5, cells := 0, slots := 0, locals := 136 } : Room) s m args below meth c H locs 0 0 (MQ below (zQi D (zOwn B K (B + n)) r B n K I' R') args s 0 0 (zOwn B K (B + n))) (F0 m 47 ls []) := by
  unfold g_X1_matches_47 at hf
  refine lv_iload_n X.1 X.2.1 dX1_matches_47 rfl (lv_at hl 2 rfl) ?_
  refine ze_aload_n X.1 X.2.1 dX1_matches_48 rfl (lv_at hl 1 rfl) ?_
  obtain ⟨a1, rfl, k3, hg⟩ := zh_dr hf
  replace hf := hg
  refine ze_getIN X 5 3 40 (RX5, TX5, 4) rfl hW k3 rfl (by decide) kfl_X1_40 dX1_matches_49 ?_
  refine lv_icmp_ge (tgt := 83) X.1 X.2.1 dX1_matches_52 (by decide) (fun c4 => ?_) (fun c4 => ?_)
  · replace hf := zif_pos c4 hf
    refine lv_iconst (v := 1) X.1 X.2.1 dX1_matches_83 (by decide) ?_
    obtain ⟨rfl, rfl, rfl⟩ := zi3 hf
    exact ze_retZ X hr hlk (by decide) hW (Nat.le_refl _) (Nat.le_refl _) dX1_matches_84
  · replace hf := zif_neg c4 hf
    refine lv_iload_n X.1 X.2.1 dX1_matches_55 rfl (lv_at hl 2 rfl) ?_
    refine lv_bipush (v := 32) X.1 X.2.1 dX1_matches_56 (by decide) ?_
    refine lv_icmp_ge (tgt := 83) X.1 X.2.1 dX1_matches_58 (by decide) (fun c5 => ?_) (fun c5 => ?_)
    · replace hf := zif_pos c5 hf
      refine lv_iconst (v := 1) X.1 X.2.1 dX1_matches_83 (by decide) ?_
      obtain ⟨rfl, rfl, rfl⟩ := zi3 hf
      exact ze_retZ X hr hlk (by decide) hW (Nat.le_refl _) (Nat.le_refl _) dX1_matches_84
    · replace hf := zif_neg c5 hf
      refine lv_aload_n X.1 X.2.1 dX1_matches_61 rfl (lv_at hl 0 rfl) ?_
      refine lv_iload_n X.1 X.2.1 dX1_matches_62 rfl (lv_at hl 2 rfl) ?_
      refine lv_aload_n X.1 X.2.1 dX1_matches_63 rfl (lv_at hl 0 rfl) ?_
      refine ze_gtR X 1 2 21 (RX1, TX1, 8) rfl hf hW hK0 rfl (by decide) kfl_X1_21 dX1_matches_64 (fun o6 hg => ?_)
      replace hf := hg
      refine lv_iload_n X.1 X.2.1 dX1_matches_67 rfl (lv_at hl 2 rfl) ?_
      obtain ⟨a7, rfl, k9, hg⟩ := zh_dr hf
      replace hf := hg
      refine ze_iald X hf hW k9 dX1_matches_68 (fun v10 hg => ?_)
      replace hf := hg
      obtain ⟨v11, I12, h13, hg⟩ := zh_bd2 hf
      replace hf := hg
      refine ze_aftI0 (ze_runV (As := [.int x3, .int v10]) (rest := []) X 1 44 (c_X1_matchNode l D B n hK0 h13) vX1_matchNode kml_X1_44 hW hK0 rfl rfl ⟨by decide, by decide⟩ rfl hl.1 rfl (Nat.le_of_ble_eq_true rfl) ⟨Nat.le_refl _, Nat.le_refl _⟩ dX1_matches_69) hW (fun H locs hV => ?_)
      replace hW := hV
      refine lv_if_ne (tgt := 77) X.1 X.2.1 dX1_matches_72 (by decide) (fun c14 => ?_) (fun c14 => ?_)
      · replace hf := zif_neg c14 hf
        refine ze_iinc (lv' := [(3, .int (x3 + (1 : Int32))), (0, .ref (B + a0)), (1, .ref (B + a1))]) (d := 1) X.1 X.2.1 dX1_matches_77 hl (k := 2) rfl (by decide) (by decide) rfl (fun ls hk => ?_)
        replace hl := hk
        refine lv_goto (tgt := 47) X.1 X.2.1 dX1_matches_80 (by decide) ?_
        exact hkself _ _ _ _ _ _ _ hf hW (lv_sub hl [1, 2, 0] rfl)
      · replace hf := zif_pos c14 hf
        refine lv_iconst (v := 0) X.1 X.2.1 dX1_matches_75 (by decide) ?_
        obtain ⟨rfl, rfl, rfl⟩ := zi3 hf
        exact ze_retZ X hr hlk (by decide) hW (Nat.le_refl _) (Nat.le_refl _) dX1_matches_76
set_option maxRecDepth 100000 in
set_option maxHeartbeats 4000000 in
theorem w_X1_matches_47 {F : Nat} {a0 : Nat}  (X : zX p s m c cX1_matches 4 RX1 D) (hr : meth.sig.returnType = some .boolean) (hlk : meth.locks = false) (hK0 : (K a0).1 = 11)  {t : Nat} {x1 : Option Nat} {x3 : Int32} (hf : f_X1_matches_47 F K a0  t I R x1 x3 = some (r, I', R')) (hW : zS (zOwn B K (B + n)) D B n K I R s.heap H locs) (hl : lv_has ls 4 [(0, .ref (B + a0)), (1, zrf B x1), (3, .int x3)]) : W p l e ({ frames := 5, cells := 0, slots := 0, locals := 136 } : Room) s m args below meth c H locs 0 0 (MQ below (zQi D (zOwn B K (B + n)) r B n K I' R') args s 0 0 (zOwn B K (B + n))) (F0 m 47 ls []) := by
  have key : ∀ t : Nat, ∀ (I : zI) (R : zR) (x1 : Option Nat) (x3 : Int32) (H : Heap) (locs : List Loc) (ls : Array Slot), f_X1_matches_47 F K a0  t I R x1 x3 = some (r, I', R') → zS (zOwn B K (B + n)) D B n K I R s.heap H locs → lv_has ls 4 [(0, .ref (B + a0)), (1, zrf B x1), (3, .int x3)] → W p l e ({ frames := 5, cells := 0, slots := 0, locals := 136 } : Room) s m args below meth c H locs 0 0 (MQ below (zQi D (zOwn B K (B + n)) r B n K I' R') args s 0 0 (zOwn B K (B + n))) (F0 m 47 ls []) := by
    intro t
    induction t with
    | zero =>
      intro I R x1 x3 H locs ls hf hW hl
      cases hf
    | succ t ih =>
      intro I R x1 x3 H locs ls hf hW hl
      exact wg_X1_matches_47 X hr hlk hK0  ih hf hW hl
  exact key t _ _ _ _ _ _ _ hf hW hl
set_option maxRecDepth 100000 in
set_option maxHeartbeats 4000000 in
theorem wg_X1_matches_12 {F : Nat} {a0 : Nat}  (X : zX p s m c cX1_matches 4 RX1 D) (hr : meth.sig.returnType = some .boolean) (hlk : meth.locks = false) (hK0 : (K a0).1 = 11)  {kself : zI → zR → Option Nat → Int32 → Option (Int32 × zI × zR)} (hkself : ∀ (I : zI) (R : zR) (x1 : Option Nat) (x3 : Int32) (H : Heap) (locs : List Loc) (ls : Array Slot), kself I R x1 x3 = some (r, I', R') → zS (zOwn B K (B + n)) D B n K I R s.heap H locs → lv_has ls 4 [(0, .ref (B + a0)), (1, zrf B x1), (3, .int x3)] → W p l e ({ frames := 5, cells := 0, slots := 0, locals := 136 } : Room) s m args below meth c H locs 0 0 (MQ below (zQi D (zOwn B K (B + n)) r B n K I' R') args s 0 0 (zOwn B K (B + n))) (F0 m 12 ls [])) {x1 : Option Nat} {x3 : Int32} (hf : g_X1_matches_12 F K a0  kself I R x1 x3 = some (r, I', R')) (hW : zS (zOwn B K (B + n)) D B n K I R s.heap H locs) (hl : lv_has ls 4 [(0, .ref (B + a0)), (1, zrf B x1), (3, .int x3)]) : W p l e ({ frames := 5, cells := 0, slots := 0, locals := 136 } : Room) s m args below meth c H locs 0 0 (MQ below (zQi D (zOwn B K (B + n)) r B n K I' R') args s 0 0 (zOwn B K (B + n))) (F0 m 12 ls []) := by
  unfold g_X1_matches_12 at hf
  refine lv_iload_n X.1 X.2.1 dX1_matches_12 rfl (lv_at hl 2 rfl) ?_
  refine lv_bipush (v := 10) X.1 X.2.1 dX1_matches_13 (by decide) ?_
  refine lv_icmp_ge (tgt := 31) X.1 X.2.1 dX1_matches_15 (by decide) (fun c15 => ?_) (fun c15 => ?_)
  · replace hf := zif_pos c15 hf
    refine lv_aload_n X.1 X.2.1 dX1_matches_31 rfl (lv_at hl 0 rfl) ?_
    refine ze_gtR X 1 2 21 (RX1, TX1, 8) rfl hf hW hK0 rfl (by decide) kfl_X1_21 dX1_matches_32 (fun o16 hg => ?_)
    replace hf := hg
    refine lv_iconst (v := 0) X.1 X.2.1 dX1_matches_35 (by decide) ?_
    refine lv_iconst (v := 0) X.1 X.2.1 dX1_matches_36 (by decide) ?_
    obtain ⟨a17, rfl, k19, hg⟩ := zh_dr hf
    replace hf := hg
    refine ze_iast X hf hW k19 dX1_matches_37 (fun I20 H locs hg hV => ?_)
    replace hf := hg
    replace hW := hV
    refine lv_aload_n X.1 X.2.1 dX1_matches_38 rfl (lv_at hl 0 rfl) ?_
    refine ze_gtR X 1 3 25 (RX1, TX1, 8) rfl hf hW hK0 rfl (by decide) kfl_X1_25 dX1_matches_39 (fun o21 hg => ?_)
    replace hf := hg
    refine lv_iconst (v := 0) X.1 X.2.1 dX1_matches_42 (by decide) ?_
    refine lv_iconst (v := 1) X.1 X.2.1 dX1_matches_43 (by decide) ?_
    obtain ⟨a22, rfl, k24, hg⟩ := zh_dr hf
    replace hf := hg
    refine ze_iast X hf hW k24 dX1_matches_44 (fun I25 H locs hg hV => ?_)
    replace hf := hg
    replace hW := hV
    refine lv_iconst (v := 0) X.1 X.2.1 dX1_matches_45 (by decide) ?_
    refine lv_istore_n (i := 3) (lv' := [(3, .int (0 : Int32)), (0, .ref (B + a0)), (1, zrf B x1)]) X.1 X.2.1 dX1_matches_46 rfl hl (by decide) rfl (fun ls hk => ?_)
    replace hl := hk
    exact w_X1_matches_47 X hr hlk hK0 hf hW (lv_sub hl [1, 2, 0] rfl)
  · replace hf := zif_neg c15 hf
    refine lv_aload_n X.1 X.2.1 dX1_matches_18 rfl (lv_at hl 0 rfl) ?_
    refine ze_gtR X 1 4 28 (RX1, TX1, 8) rfl hf hW hK0 rfl (by decide) kfl_X1_28 dX1_matches_19 (fun o26 hg => ?_)
    replace hf := hg
    refine lv_iload_n X.1 X.2.1 dX1_matches_22 rfl (lv_at hl 2 rfl) ?_
    refine lv_iconst (v := -1) X.1 X.2.1 dX1_matches_23 (by decide) ?_
    obtain ⟨a27, rfl, k29, hg⟩ := zh_dr hf
    replace hf := hg
    refine ze_iast X hf hW k29 dX1_matches_24 (fun I30 H locs hg hV => ?_)
    replace hf := hg
    replace hW := hV
    refine ze_iinc (lv' := [(3, .int (x3 + (1 : Int32))), (0, .ref (B + a0)), (1, zrf B x1)]) (d := 1) X.1 X.2.1 dX1_matches_25 hl (k := 2) rfl (by decide) (by decide) rfl (fun ls hk => ?_)
    replace hl := hk
    refine lv_goto (tgt := 12) X.1 X.2.1 dX1_matches_28 (by decide) ?_
    exact hkself _ _ _ _ _ _ _ hf hW (lv_sub hl [1, 2, 0] rfl)
set_option maxRecDepth 100000 in
set_option maxHeartbeats 4000000 in
theorem w_X1_matches_12 {F : Nat} {a0 : Nat}  (X : zX p s m c cX1_matches 4 RX1 D) (hr : meth.sig.returnType = some .boolean) (hlk : meth.locks = false) (hK0 : (K a0).1 = 11)  {t : Nat} {x1 : Option Nat} {x3 : Int32} (hf : f_X1_matches_12 F K a0  t I R x1 x3 = some (r, I', R')) (hW : zS (zOwn B K (B + n)) D B n K I R s.heap H locs) (hl : lv_has ls 4 [(0, .ref (B + a0)), (1, zrf B x1), (3, .int x3)]) : W p l e ({ frames := 5, cells := 0, slots := 0, locals := 136 } : Room) s m args below meth c H locs 0 0 (MQ below (zQi D (zOwn B K (B + n)) r B n K I' R') args s 0 0 (zOwn B K (B + n))) (F0 m 12 ls []) := by
  have key : ∀ t : Nat, ∀ (I : zI) (R : zR) (x1 : Option Nat) (x3 : Int32) (H : Heap) (locs : List Loc) (ls : Array Slot), f_X1_matches_12 F K a0  t I R x1 x3 = some (r, I', R') → zS (zOwn B K (B + n)) D B n K I R s.heap H locs → lv_has ls 4 [(0, .ref (B + a0)), (1, zrf B x1), (3, .int x3)] → W p l e ({ frames := 5, cells := 0, slots := 0, locals := 136 } : Room) s m args below meth c H locs 0 0 (MQ below (zQi D (zOwn B K (B + n)) r B n K I' R') args s 0 0 (zOwn B K (B + n))) (F0 m 12 ls []) := by
    intro t
    induction t with
    | zero =>
      intro I R x1 x3 H locs ls hf hW hl
      cases hf
    | succ t ih =>
      intro I R x1 x3 H locs ls hf hW hl
      exact wg_X1_matches_12 X hr hlk hK0  ih hf hW hl
  exact key t _ _ _ _ _ _ _ hf hW hl
set_option maxRecDepth 100000 in
set_option maxHeartbeats 4000000 in
theorem c_X1_matches (l : Launch) (D : zD) (B n : Nat) {F : Nat} {K : zK} {I : zI} {R : zR} {a0 : Nat} {x1 : Option Nat} {x2 : Option Nat} {r : Int32} {I' : zI} {R' : zR} (hK0 : (K a0).1 = 11) (hf : f_X1_matches F K I R a0 x1 x2 = some (r, I', R')) : zM l yX1_matches cX1_matches 4 (some .boolean) ({ frames := 5, cells := 0, slots := 0, locals := 136 } : Room) D B n K I R [.ref (B + a0), zrf B x1, zrf B x2] (zQi D (zOwn B K (B + n)) r B n K I' R') := by
  refine ze_entry (lv0 := [(0, .ref (B + a0)), (1, zrf B x1), (2, zrf B x2)]) (by decide) (by simp [lg_sl, zcat, zcat_i, zcat_r, zcat_l]) (by simp [lv_args, zcat, zcat_i, zcat_r, zcat_l]) (fun p e s m below meth c X hr hlk hin hW ls hl => ?_)
  unfold f_X1_matches at hf
  refine lv_aload_n X.1 X.2.1 dX1_matches_0 rfl (lv_at hl 0 rfl) ?_
  refine ze_aload_n X.1 X.2.1 dX1_matches_1 rfl (lv_at hl 1 rfl) ?_
  refine ze_putR (ty := .object "LeastPatterns$Term") (x := x1) X 1 0 12 (RX1, TX1, 8) rfl (Or.inl ⟨_, rfl⟩) hf hW hK0 rfl (by decide) kfl_X1_12 rfl (by decide +kernel) dX1_matches_2 (fun R31 H locs hg hV => ?_)
  replace hf := hg
  replace hW := hV
  refine lv_aload_n X.1 X.2.1 dX1_matches_5 rfl (lv_at hl 0 rfl) ?_
  refine ze_aload_n X.1 X.2.1 dX1_matches_6 rfl (lv_at hl 2 rfl) ?_
  refine ze_putR (ty := .object "LeastPatterns$Term") (x := x2) X 1 1 18 (RX1, TX1, 8) rfl (Or.inl ⟨_, rfl⟩) hf hW hK0 rfl (by decide) kfl_X1_18 rfl (by decide +kernel) dX1_matches_7 (fun R32 H locs hg hV => ?_)
  replace hf := hg
  replace hW := hV
  refine lv_iconst (v := 0) X.1 X.2.1 dX1_matches_10 (by decide) ?_
  refine lv_istore_n (i := 3) (lv' := [(3, .int (0 : Int32)), (0, .ref (B + a0)), (1, zrf B x1), (2, zrf B x2)]) X.1 X.2.1 dX1_matches_11 rfl hl (by decide) (by first | rfl | (simp [zcat, zcat_i, zcat_r, zcat_l, zrf_some]; done) | (simp [zcat, zcat_i, zcat_r, zcat_l, zrf_some]; decide)) (fun ls hk => ?_)
  replace hl := hk
  exact w_X1_matches_12 X hr hlk hK0 hf hW (lv_sub hl [1, 2, 0] rfl)
end

/-! LeastPatterns.covers(II)I -/
def f_X6_covers (F : Nat) (K : zK) (I : zI) (R : zR) (a0 : Nat) (x1 : Int32) (x2 : Int32) : Option (Int32 × zI × zR) :=
  zbd (f_X6_noRegister F K I R x1) fun v1 =>
  if v1 = (0 : Int32) then
    zbd (f_X6_noRegister F K I R x2) fun v4 =>
    if v4 = (0 : Int32) then
      zbd (some (R a0 3)) fun o7 =>
      zbd (zdr K o7 14) fun a8 =>
      zbd (f_X4_term F K I R a8 x1) fun o11 =>
      zbd (some (R a0 3)) fun o13 =>
      zbd (zdr K o13 14) fun a14 =>
      zbd (f_X4_term F K I R a14 x2) fun o17 =>
      zcs o11 (
        some ((-2 : Int32), I, R)
      ) fun a19 =>
        zcs o17 (
          some ((-2 : Int32), I, R)
        ) fun a21 =>
          zbd (some (R a0 9)) fun o23 =>
          zbd (zdr K o23 11) fun a24 =>
          zbd3 (f_X1_matches F K I R a24 (some a19) (some a21)) fun v27 I28 R29 =>
          if v27 = (0 : Int32) then
            some ((0 : Int32), I28, R29)
          else
            some ((1 : Int32), I28, R29)
    else
      some ((-1 : Int32), I, R)
  else
    some ((-1 : Int32), I, R)
section
variable {p : Program} {l : Launch} {e : Env} {s : State} {m : MethodId} {args : Array Value} {below : List Frame} {meth : Method} {c : Code} {D : zD} {B n n0 n' fd ld : Nat} {K K0 K' : zK} {I I' : zI} {R R' : zR} {H : Heap} {locs : List Loc} {ls : Array Slot} {r : Int32}
set_option maxRecDepth 100000 in
set_option maxHeartbeats 4000000 in
theorem c_X6_covers (l : Launch) (D : zD) (B n : Nat) {F : Nat} {K : zK} {I : zI} {R : zR} {a0 : Nat} {x1 : Int32} {x2 : Int32} {r : Int32} {I' : zI} {R' : zR} (hK0 : (K a0).1 = 16) (hf : f_X6_covers F K I R a0 x1 x2 = some (r, I', R')) : zM l yX6_covers cX6_covers 5 (some .int) ({ frames := 6, cells := 0, slots := 0, locals := 159 } : Room) D B n K I R [.ref (B + a0), .int x1, .int x2] (zQi D (zOwn B K (B + n)) r B n K I' R') := by
  refine ze_entry (lv0 := [(0, .ref (B + a0)), (1, .int x1), (2, .int x2)]) (by decide) (by simp [lg_sl, zcat, zcat_i, zcat_r, zcat_l]) (by simp [lv_args, zcat, zcat_i, zcat_r, zcat_l]) (fun p e s m below meth c X hr hlk hin hW ls hl => ?_)
  unfold f_X6_covers at hf
  refine lv_iload_n X.1 X.2.1 dX6_covers_0 rfl (lv_at hl 1 rfl) ?_
  obtain ⟨v1, h2, hg⟩ := zh_bd hf
  replace hf := hg
  refine ze_aftI0 (ze_runS (As := [.int x1]) (rest := []) X 69 (c_X6_noRegister l D B n h2) vX6_noRegister kml_X6_69 hW ⟨by decide, by decide⟩ rfl hl.1 rfl (Nat.le_of_ble_eq_true rfl) ⟨Nat.le_refl _, Nat.le_refl _⟩ dX6_covers_1) hW (fun H locs hV => ?_)
  replace hW := hV
  refine lv_if_ne (tgt := 14) X.1 X.2.1 dX6_covers_4 (by decide) (fun c3 => ?_) (fun c3 => ?_)
  · replace hf := zif_neg c3 hf
    refine lv_iconst (v := -1) X.1 X.2.1 dX6_covers_14 (by decide) ?_
    obtain ⟨rfl, rfl, rfl⟩ := zi3 hf
    exact ze_retI X hr hlk hW (Nat.le_refl _) (Nat.le_refl _) dX6_covers_15
  · replace hf := zif_pos c3 hf
    refine lv_iload_n X.1 X.2.1 dX6_covers_7 rfl (lv_at hl 2 rfl) ?_
    obtain ⟨v4, h5, hg⟩ := zh_bd hf
    replace hf := hg
    refine ze_aftI0 (ze_runS (As := [.int x2]) (rest := []) X 69 (c_X6_noRegister l D B n h5) vX6_noRegister kml_X6_69 hW ⟨by decide, by decide⟩ rfl hl.1 rfl (Nat.le_of_ble_eq_true rfl) ⟨Nat.le_refl _, Nat.le_refl _⟩ dX6_covers_8) hW (fun H locs hV => ?_)
    replace hW := hV
    refine lv_if_eq (tgt := 16) X.1 X.2.1 dX6_covers_11 (by decide) (fun c6 => ?_) (fun c6 => ?_)
    · replace hf := zif_pos c6 hf
      refine lv_aload_n X.1 X.2.1 dX6_covers_16 rfl (lv_at hl 0 rfl) ?_
      refine ze_gtR X 6 3 23 (RX6, TX6, 11) rfl hf hW hK0 rfl (by decide) kfl_X6_23 dX6_covers_17 (fun o7 hg => ?_)
      replace hf := hg
      refine lv_iload_n X.1 X.2.1 dX6_covers_20 rfl (lv_at hl 1 rfl) ?_
      obtain ⟨a8, rfl, k10, hg⟩ := zh_dr hf
      replace hf := hg
      obtain ⟨o11, h12, hg⟩ := zh_bd hf
      replace hf := hg
      refine ze_aftQ0 (ze_runV (As := [.int x1]) (rest := []) X 4 107 (c_X4_term l D B n k10 h12) vX4_term kml_X6_107 hW k10 rfl rfl ⟨by decide, by decide⟩ rfl hl.1 rfl (Nat.le_of_ble_eq_true rfl) ⟨Nat.le_refl _, Nat.le_refl _⟩ dX6_covers_21) hW (fun H locs hV => ?_)
      replace hW := hV
      refine ze_astore_n (i := 3) (lv' := [(3, zrf B o11), (0, .ref (B + a0)), (1, .int x1), (2, .int x2)]) X.1 X.2.1 dX6_covers_24 rfl hl (by decide) rfl (fun ls hk => ?_)
      replace hl := hk
      refine lv_aload_n X.1 X.2.1 dX6_covers_25 rfl (lv_at hl 1 rfl) ?_
      refine ze_gtR X 6 3 23 (RX6, TX6, 11) rfl hf hW hK0 rfl (by decide) kfl_X6_23 dX6_covers_26 (fun o13 hg => ?_)
      replace hf := hg
      refine lv_iload_n X.1 X.2.1 dX6_covers_29 rfl (lv_at hl 3 rfl) ?_
      obtain ⟨a14, rfl, k16, hg⟩ := zh_dr hf
      replace hf := hg
      obtain ⟨o17, h18, hg⟩ := zh_bd hf
      replace hf := hg
      refine ze_aftQ0 (ze_runV (As := [.int x2]) (rest := []) X 4 107 (c_X4_term l D B n k16 h18) vX4_term kml_X6_107 hW k16 rfl rfl ⟨by decide, by decide⟩ rfl hl.1 rfl (Nat.le_of_ble_eq_true rfl) ⟨Nat.le_refl _, Nat.le_refl _⟩ dX6_covers_30) hW (fun H locs hV => ?_)
      replace hW := hV
      refine ze_astore (lv' := [(4, zrf B o17), (3, zrf B o11), (0, .ref (B + a0)), (1, .int x1), (2, .int x2)]) X.1 X.2.1 dX6_covers_33 hl (by decide) (by first | rfl | (simp [zcat, zcat_i, zcat_r, zcat_l, zrf_some]; done) | (simp [zcat, zcat_i, zcat_r, zcat_l, zrf_some]; decide)) (fun ls hk => ?_)
      replace hl := hk
      refine ze_aload_n X.1 X.2.1 dX6_covers_35 rfl (lv_at hl 1 rfl) ?_
      refine ze_ifnull (tgt := 44) X.1 X.2.1 dX6_covers_36 (by decide) (fun c20 => ?_) (fun a19 c20 => ?_)
      · replace hf := zcs_none c20 hf
        subst c20
        refine lv_bipush (v := -2) X.1 X.2.1 dX6_covers_44 (by decide) ?_
        obtain ⟨rfl, rfl, rfl⟩ := zi3 hf
        exact ze_retI X hr hlk hW (Nat.le_refl _) (Nat.le_refl _) dX6_covers_46
      · replace hf := zcs_some c20 hf
        subst c20
        refine ze_aload X.1 X.2.1 dX6_covers_39 (lv_at hl 0 rfl) ?_
        refine ze_ifnonnull (tgt := 47) X.1 X.2.1 dX6_covers_41 (by decide) (fun a21 c22 => ?_) (fun c22 => ?_)
        · replace hf := zcs_some c22 hf
          subst c22
          refine lv_aload_n X.1 X.2.1 dX6_covers_47 rfl (lv_at hl 2 rfl) ?_
          refine ze_gtR X 6 9 58 (RX6, TX6, 11) rfl hf hW hK0 rfl (by decide) kfl_X6_58 dX6_covers_48 (fun o23 hg => ?_)
          replace hf := hg
          refine lv_aload_n X.1 X.2.1 dX6_covers_51 rfl (lv_at hl 1 rfl) ?_
          refine lv_aload X.1 X.2.1 dX6_covers_52 (lv_at hl 0 rfl) ?_
          obtain ⟨a24, rfl, k26, hg⟩ := zh_dr hf
          replace hf := hg
          obtain ⟨v27, I28, R29, h30, hg⟩ := zh_bd3 hf
          replace hf := hg
          refine ze_aftI0 (ze_runV (As := [.ref (B + a19), .ref (B + a21)]) (rest := []) X 1 167 (c_X1_matches l D B n k26 h30) vX1_matches kml_X6_167 hW k26 rfl rfl ⟨by decide, by decide⟩ rfl hl.1 rfl (Nat.le_of_ble_eq_true rfl) ⟨Nat.le_refl _, Nat.le_refl _⟩ dX6_covers_54) hW (fun H locs hV => ?_)
          replace hW := hV
          refine lv_if_eq (tgt := 64) X.1 X.2.1 dX6_covers_57 (by decide) (fun c31 => ?_) (fun c31 => ?_)
          · replace hf := zif_pos c31 hf
            refine lv_iconst (v := 0) X.1 X.2.1 dX6_covers_64 (by decide) ?_
            obtain ⟨rfl, rfl, rfl⟩ := zi3 hf
            exact ze_retI X hr hlk hW (Nat.le_refl _) (Nat.le_refl _) dX6_covers_65
          · replace hf := zif_neg c31 hf
            refine lv_iconst (v := 1) X.1 X.2.1 dX6_covers_60 (by decide) ?_
            refine lv_goto (tgt := 65) X.1 X.2.1 dX6_covers_61 (by decide) ?_
            obtain ⟨rfl, rfl, rfl⟩ := zi3 hf
            exact ze_retI X hr hlk hW (Nat.le_refl _) (Nat.le_refl _) dX6_covers_65
        · replace hf := zcs_none c22 hf
          subst c22
          refine lv_bipush (v := -2) X.1 X.2.1 dX6_covers_44 (by decide) ?_
          obtain ⟨rfl, rfl, rfl⟩ := zi3 hf
          exact ze_retI X hr hlk hW (Nat.le_refl _) (Nat.le_refl _) dX6_covers_46
    · replace hf := zif_neg c6 hf
      refine lv_iconst (v := -1) X.1 X.2.1 dX6_covers_14 (by decide) ?_
      obtain ⟨rfl, rfl, rfl⟩ := zi3 hf
      exact ze_retI X hr hlk hW (Nat.le_refl _) (Nat.le_refl _) dX6_covers_15
end

/-! LeastPatterns$Matcher.filling(II)I -/
def f_X1_filling (F : Nat) (K : zK) (I : zI) (R : zR) (a0 : Nat) (x1 : Int32) (x2 : Int32) : Option (Int32) :=
  zbd (f_X6_outside F K I R x1 (9 : Int32)) fun v1 =>
  if v1 = (0 : Int32) then
    zbd (some (R a0 4)) fun o4 =>
    zbd (zdr K o4 1) fun a5 =>
    zbd (zrd K I a5 x1) fun v8 =>
    if v8 = (-1 : Int32) then
      some (-9 : Int32)
    else
      if x2 = 0 then
        zbd (some (R a0 6)) fun o10 =>
        zbd (zdr K o10 1) fun a11 =>
        zbd (zrd K I a11 x1) fun v14 =>
        if v14 = (0 : Int32) then
          some (-9 : Int32)
        else
          zbd (some (R a0 5)) fun o16 =>
          zbd (zdr K o16 1) fun a17 =>
          zbd (zrd K I a17 x1) fun v20 =>
          some v20
      else
      if x2 = 1 then
        zbd (some (R a0 6)) fun o22 =>
        zbd (zdr K o22 1) fun a23 =>
        zbd (zrd K I a23 x1) fun v26 =>
        some v26
      else
        zbd (some (R a0 7)) fun o28 =>
        zbd (zdr K o28 1) fun a29 =>
        zbd (zrd K I a29 x1) fun v32 =>
        some v32
  else
    some (-9 : Int32)
section
variable {p : Program} {l : Launch} {e : Env} {s : State} {m : MethodId} {args : Array Value} {below : List Frame} {meth : Method} {c : Code} {D : zD} {B n n0 n' fd ld : Nat} {K K0 K' : zK} {I I' : zI} {R R' : zR} {H : Heap} {locs : List Loc} {ls : Array Slot} {r : Int32}
set_option maxRecDepth 100000 in
set_option maxHeartbeats 4000000 in
theorem c_X1_filling (l : Launch) (D : zD) (B n : Nat) {F : Nat} {K : zK} {I : zI} {R : zR} {a0 : Nat} {x1 : Int32} {x2 : Int32} {r : Int32} (hK0 : (K a0).1 = 11) (hf : f_X1_filling F K I R a0 x1 x2 = some r) : zM l yX1_filling cX1_filling 3 (some .int) ({ frames := 2, cells := 0, slots := 0, locals := 61 } : Room) D B n K I R [.ref (B + a0), .int x1, .int x2] (zQi D (zOwn B K (B + n)) r B n K I R) := by
  refine ze_entry (lv0 := [(0, .ref (B + a0)), (1, .int x1), (2, .int x2)]) (by decide) (by simp [lg_sl, zcat, zcat_i, zcat_r, zcat_l]) (by simp [lv_args, zcat, zcat_i, zcat_r, zcat_l]) (fun p e s m below meth c X hr hlk hin hW ls hl => ?_)
  unfold f_X1_filling at hf
  refine lv_iload_n X.1 X.2.1 dX1_filling_0 rfl (lv_at hl 1 rfl) ?_
  refine lv_bipush (v := 9) X.1 X.2.1 dX1_filling_1 (by decide) ?_
  obtain ⟨v1, h2, hg⟩ := zh_bd hf
  replace hf := hg
  refine ze_aftI0 (ze_runSN (As := [.int x1, .int (9 : Int32)]) (rest := []) X 78 (c_X6_outside l D B n h2) vX6_outside kml_X1_78 hW ⟨by decide, by decide⟩ rfl hl.1 rfl (Nat.le_of_ble_eq_true rfl) ⟨Nat.le_refl _, Nat.le_refl _⟩ dX1_filling_3) hW (fun H locs hV => ?_)
  replace hW := hV
  refine lv_if_ne (tgt := 19) X.1 X.2.1 dX1_filling_6 (by decide) (fun c3 => ?_) (fun c3 => ?_)
  · replace hf := zif_neg c3 hf
    refine lv_bipush (v := -9) X.1 X.2.1 dX1_filling_19 (by decide) ?_
    obtain rfl := zi1 hf
    exact ze_retI X hr hlk hW (Nat.le_refl _) (Nat.le_refl _) dX1_filling_21
  · replace hf := zif_pos c3 hf
    refine lv_aload_n X.1 X.2.1 dX1_filling_9 rfl (lv_at hl 0 rfl) ?_
    refine ze_gtR X 1 4 28 (RX1, TX1, 8) rfl hf hW hK0 rfl (by decide) kfl_X1_28 dX1_filling_10 (fun o4 hg => ?_)
    replace hf := hg
    refine lv_iload_n X.1 X.2.1 dX1_filling_13 rfl (lv_at hl 1 rfl) ?_
    obtain ⟨a5, rfl, k7, hg⟩ := zh_dr hf
    replace hf := hg
    refine ze_iald X hf hW k7 dX1_filling_14 (fun v8 hg => ?_)
    replace hf := hg
    refine lv_iconst (v := -1) X.1 X.2.1 dX1_filling_15 (by decide) ?_
    refine lv_icmp_ne (tgt := 22) X.1 X.2.1 dX1_filling_16 (by decide) (fun c9 => ?_) (fun c9 => ?_)
    · replace hf := zif_neg c9 hf
      refine lv_iload_n X.1 X.2.1 dX1_filling_22 rfl (lv_at hl 2 rfl) ?_
      by_cases c21 : x2 = 0
      · replace hf := zif_pos c21 hf
        refine lv_lookup (tgt := 48) (off := 25) X.1 X.2.1 dX1_filling_23 (by decide) (by rw [c21]; decide) (by decide) ?_
        refine lv_aload_n X.1 X.2.1 dX1_filling_48 rfl (lv_at hl 0 rfl) ?_
        refine ze_gtR X 1 6 34 (RX1, TX1, 8) rfl hf hW hK0 rfl (by decide) kfl_X1_34 dX1_filling_49 (fun o10 hg => ?_)
        replace hf := hg
        refine lv_iload_n X.1 X.2.1 dX1_filling_52 rfl (lv_at hl 1 rfl) ?_
        obtain ⟨a11, rfl, k13, hg⟩ := zh_dr hf
        replace hf := hg
        refine ze_iald X hf hW k13 dX1_filling_53 (fun v14 hg => ?_)
        replace hf := hg
        refine lv_if_ne (tgt := 62) X.1 X.2.1 dX1_filling_54 (by decide) (fun c15 => ?_) (fun c15 => ?_)
        · replace hf := zif_neg c15 hf
          refine lv_aload_n X.1 X.2.1 dX1_filling_62 rfl (lv_at hl 0 rfl) ?_
          refine ze_gtR X 1 5 31 (RX1, TX1, 8) rfl hf hW hK0 rfl (by decide) kfl_X1_31 dX1_filling_63 (fun o16 hg => ?_)
          replace hf := hg
          refine lv_iload_n X.1 X.2.1 dX1_filling_66 rfl (lv_at hl 1 rfl) ?_
          obtain ⟨a17, rfl, k19, hg⟩ := zh_dr hf
          replace hf := hg
          refine ze_iald X hf hW k19 dX1_filling_67 (fun v20 hg => ?_)
          replace hf := hg
          obtain rfl := zi1 hf
          exact ze_retI X hr hlk hW (Nat.le_refl _) (Nat.le_refl _) dX1_filling_68
        · replace hf := zif_pos c15 hf
          refine lv_bipush (v := -9) X.1 X.2.1 dX1_filling_57 (by decide) ?_
          refine lv_goto (tgt := 68) X.1 X.2.1 dX1_filling_59 (by decide) ?_
          obtain rfl := zi1 hf
          exact ze_retI X hr hlk hW (Nat.le_refl _) (Nat.le_refl _) dX1_filling_68
      replace hf := zif_neg c21 hf
      by_cases c27 : x2 = 1
      · replace hf := zif_pos c27 hf
        refine lv_lookup (tgt := 69) (off := 46) X.1 X.2.1 dX1_filling_23 (by decide) (by rw [c27]; decide) (by decide) ?_
        refine lv_aload_n X.1 X.2.1 dX1_filling_69 rfl (lv_at hl 0 rfl) ?_
        refine ze_gtR X 1 6 34 (RX1, TX1, 8) rfl hf hW hK0 rfl (by decide) kfl_X1_34 dX1_filling_70 (fun o22 hg => ?_)
        replace hf := hg
        refine lv_iload_n X.1 X.2.1 dX1_filling_73 rfl (lv_at hl 1 rfl) ?_
        obtain ⟨a23, rfl, k25, hg⟩ := zh_dr hf
        replace hf := hg
        refine ze_iald X hf hW k25 dX1_filling_74 (fun v26 hg => ?_)
        replace hf := hg
        obtain rfl := zi1 hf
        exact ze_retI X hr hlk hW (Nat.le_refl _) (Nat.le_refl _) dX1_filling_75
      replace hf := zif_neg c27 hf
      refine lv_lookup (tgt := 76) (off := 53) X.1 X.2.1 dX1_filling_23 (by decide) (by show Op.lookupswitch.offset [(0, 25), (1, 46)] _ _ = _; rw [lv_osw c21 (by decide), lv_osw c27 (by decide)]; rfl) (by decide) ?_
      refine lv_aload_n X.1 X.2.1 dX1_filling_76 rfl (lv_at hl 0 rfl) ?_
      refine ze_gtR X 1 7 37 (RX1, TX1, 8) rfl hf hW hK0 rfl (by decide) kfl_X1_37 dX1_filling_77 (fun o28 hg => ?_)
      replace hf := hg
      refine lv_iload_n X.1 X.2.1 dX1_filling_80 rfl (lv_at hl 1 rfl) ?_
      obtain ⟨a29, rfl, k31, hg⟩ := zh_dr hf
      replace hf := hg
      refine ze_iald X hf hW k31 dX1_filling_81 (fun v32 hg => ?_)
      replace hf := hg
      obtain rfl := zi1 hf
      exact ze_retI X hr hlk hW (Nat.le_refl _) (Nat.le_refl _) dX1_filling_82
    · replace hf := zif_pos c9 hf
      refine lv_bipush (v := -9) X.1 X.2.1 dX1_filling_19 (by decide) ?_
      obtain rfl := zi1 hf
      exact ze_retI X hr hlk hW (Nat.le_refl _) (Nat.le_refl _) dX1_filling_21
end

/-! LeastPatterns.filled(IIII)I -/
def f_X6_filled (F : Nat) (K : zK) (I : zI) (R : zR) (a0 : Nat) (x1 : Int32) (x2 : Int32) (x3 : Int32) (x4 : Int32) : Option (Int32 × zI × zR) :=
  zbd (f_X6_noRegister F K I R x1) fun v1 =>
  if v1 = (0 : Int32) then
    zbd (f_X6_noRegister F K I R x2) fun v4 =>
    if v4 = (0 : Int32) then
      zbd (f_X6_outside F K I R x3 (9 : Int32)) fun v7 =>
      if v7 = (0 : Int32) then
        zbd (f_X6_outside F K I R x4 (2 : Int32)) fun v10 =>
        if v10 = (0 : Int32) then
          zbd (some (R a0 3)) fun o13 =>
          zbd (zdr K o13 14) fun a14 =>
          zbd (f_X4_term F K I R a14 x1) fun o17 =>
          zbd (some (R a0 3)) fun o19 =>
          zbd (zdr K o19 14) fun a20 =>
          zbd (f_X4_term F K I R a20 x2) fun o23 =>
          zcs o17 (
            some ((-2 : Int32), I, R)
          ) fun a25 =>
            zcs o23 (
              some ((-2 : Int32), I, R)
            ) fun a27 =>
              zbd (some (R a0 9)) fun o29 =>
              zbd (zdr K o29 11) fun a30 =>
              zbd3 (f_X1_matches F K I R a30 (some a25) (some a27)) fun v33 I34 R35 =>
              if v33 = (0 : Int32) then
                some ((-9 : Int32), I34, R35)
              else
                zbd (some (R35 a0 9)) fun o38 =>
                zbd (zdr K o38 11) fun a39 =>
                zbd (f_X1_filling F K I34 R35 a39 x3 x4) fun v42 =>
                some (v42, I34, R35)
        else
          some ((-1 : Int32), I, R)
      else
        some ((-1 : Int32), I, R)
    else
      some ((-1 : Int32), I, R)
  else
    some ((-1 : Int32), I, R)
section
variable {p : Program} {l : Launch} {e : Env} {s : State} {m : MethodId} {args : Array Value} {below : List Frame} {meth : Method} {c : Code} {D : zD} {B n n0 n' fd ld : Nat} {K K0 K' : zK} {I I' : zI} {R R' : zR} {H : Heap} {locs : List Loc} {ls : Array Slot} {r : Int32}
set_option maxRecDepth 100000 in
set_option maxHeartbeats 4000000 in
theorem c_X6_filled (l : Launch) (D : zD) (B n : Nat) {F : Nat} {K : zK} {I : zI} {R : zR} {a0 : Nat} {x1 : Int32} {x2 : Int32} {x3 : Int32} {x4 : Int32} {r : Int32} {I' : zI} {R' : zR} (hK0 : (K a0).1 = 16) (hf : f_X6_filled F K I R a0 x1 x2 x3 x4 = some (r, I', R')) : zM l yX6_filled cX6_filled 7 (some .int) ({ frames := 6, cells := 0, slots := 0, locals := 159 } : Room) D B n K I R [.ref (B + a0), .int x1, .int x2, .int x3, .int x4] (zQi D (zOwn B K (B + n)) r B n K I' R') := by
  refine ze_entry (lv0 := [(0, .ref (B + a0)), (1, .int x1), (2, .int x2), (3, .int x3), (4, .int x4)]) (by decide) (by simp [lg_sl, zcat, zcat_i, zcat_r, zcat_l]) (by simp [lv_args, zcat, zcat_i, zcat_r, zcat_l]) (fun p e s m below meth c X hr hlk hin hW ls hl => ?_)
  unfold f_X6_filled at hf
  refine lv_iload_n X.1 X.2.1 dX6_filled_0 rfl (lv_at hl 1 rfl) ?_
  obtain ⟨v1, h2, hg⟩ := zh_bd hf
  replace hf := hg
  refine ze_aftI0 (ze_runS (As := [.int x1]) (rest := []) X 69 (c_X6_noRegister l D B n h2) vX6_noRegister kml_X6_69 hW ⟨by decide, by decide⟩ rfl hl.1 rfl (Nat.le_of_ble_eq_true rfl) ⟨Nat.le_refl _, Nat.le_refl _⟩ dX6_filled_1) hW (fun H locs hV => ?_)
  replace hW := hV
  refine lv_if_ne (tgt := 32) X.1 X.2.1 dX6_filled_4 (by decide) (fun c3 => ?_) (fun c3 => ?_)
  · replace hf := zif_neg c3 hf
    refine lv_iconst (v := -1) X.1 X.2.1 dX6_filled_32 (by decide) ?_
    obtain ⟨rfl, rfl, rfl⟩ := zi3 hf
    exact ze_retI X hr hlk hW (Nat.le_refl _) (Nat.le_refl _) dX6_filled_33
  · replace hf := zif_pos c3 hf
    refine lv_iload_n X.1 X.2.1 dX6_filled_7 rfl (lv_at hl 2 rfl) ?_
    obtain ⟨v4, h5, hg⟩ := zh_bd hf
    replace hf := hg
    refine ze_aftI0 (ze_runS (As := [.int x2]) (rest := []) X 69 (c_X6_noRegister l D B n h5) vX6_noRegister kml_X6_69 hW ⟨by decide, by decide⟩ rfl hl.1 rfl (Nat.le_of_ble_eq_true rfl) ⟨Nat.le_refl _, Nat.le_refl _⟩ dX6_filled_8) hW (fun H locs hV => ?_)
    replace hW := hV
    refine lv_if_ne (tgt := 32) X.1 X.2.1 dX6_filled_11 (by decide) (fun c6 => ?_) (fun c6 => ?_)
    · replace hf := zif_neg c6 hf
      refine lv_iconst (v := -1) X.1 X.2.1 dX6_filled_32 (by decide) ?_
      obtain ⟨rfl, rfl, rfl⟩ := zi3 hf
      exact ze_retI X hr hlk hW (Nat.le_refl _) (Nat.le_refl _) dX6_filled_33
    · replace hf := zif_pos c6 hf
      refine lv_iload_n X.1 X.2.1 dX6_filled_14 rfl (lv_at hl 3 rfl) ?_
      refine lv_bipush (v := 9) X.1 X.2.1 dX6_filled_15 (by decide) ?_
      obtain ⟨v7, h8, hg⟩ := zh_bd hf
      replace hf := hg
      refine ze_aftI0 (ze_runS (As := [.int x3, .int (9 : Int32)]) (rest := []) X 65 (c_X6_outside l D B n h8) vX6_outside kml_X6_65 hW ⟨by decide, by decide⟩ rfl hl.1 rfl (Nat.le_of_ble_eq_true rfl) ⟨Nat.le_refl _, Nat.le_refl _⟩ dX6_filled_17) hW (fun H locs hV => ?_)
      replace hW := hV
      refine lv_if_ne (tgt := 32) X.1 X.2.1 dX6_filled_20 (by decide) (fun c9 => ?_) (fun c9 => ?_)
      · replace hf := zif_neg c9 hf
        refine lv_iconst (v := -1) X.1 X.2.1 dX6_filled_32 (by decide) ?_
        obtain ⟨rfl, rfl, rfl⟩ := zi3 hf
        exact ze_retI X hr hlk hW (Nat.le_refl _) (Nat.le_refl _) dX6_filled_33
      · replace hf := zif_pos c9 hf
        refine lv_iload X.1 X.2.1 dX6_filled_23 (lv_at hl 4 rfl) ?_
        refine lv_iconst (v := 2) X.1 X.2.1 dX6_filled_25 (by decide) ?_
        obtain ⟨v10, h11, hg⟩ := zh_bd hf
        replace hf := hg
        refine ze_aftI0 (ze_runS (As := [.int x4, .int (2 : Int32)]) (rest := []) X 65 (c_X6_outside l D B n h11) vX6_outside kml_X6_65 hW ⟨by decide, by decide⟩ rfl hl.1 rfl (Nat.le_of_ble_eq_true rfl) ⟨Nat.le_refl _, Nat.le_refl _⟩ dX6_filled_26) hW (fun H locs hV => ?_)
        replace hW := hV
        refine lv_if_eq (tgt := 34) X.1 X.2.1 dX6_filled_29 (by decide) (fun c12 => ?_) (fun c12 => ?_)
        · replace hf := zif_pos c12 hf
          refine lv_aload_n X.1 X.2.1 dX6_filled_34 rfl (lv_at hl 0 rfl) ?_
          refine ze_gtR X 6 3 23 (RX6, TX6, 11) rfl hf hW hK0 rfl (by decide) kfl_X6_23 dX6_filled_35 (fun o13 hg => ?_)
          replace hf := hg
          refine lv_iload_n X.1 X.2.1 dX6_filled_38 rfl (lv_at hl 1 rfl) ?_
          obtain ⟨a14, rfl, k16, hg⟩ := zh_dr hf
          replace hf := hg
          obtain ⟨o17, h18, hg⟩ := zh_bd hf
          replace hf := hg
          refine ze_aftQ0 (ze_runV (As := [.int x1]) (rest := []) X 4 107 (c_X4_term l D B n k16 h18) vX4_term kml_X6_107 hW k16 rfl rfl ⟨by decide, by decide⟩ rfl hl.1 rfl (Nat.le_of_ble_eq_true rfl) ⟨Nat.le_refl _, Nat.le_refl _⟩ dX6_filled_39) hW (fun H locs hV => ?_)
          replace hW := hV
          refine ze_astore (lv' := [(5, zrf B o17), (0, .ref (B + a0)), (1, .int x1), (2, .int x2), (3, .int x3), (4, .int x4)]) X.1 X.2.1 dX6_filled_42 hl (by decide) rfl (fun ls hk => ?_)
          replace hl := hk
          refine lv_aload_n X.1 X.2.1 dX6_filled_44 rfl (lv_at hl 1 rfl) ?_
          refine ze_gtR X 6 3 23 (RX6, TX6, 11) rfl hf hW hK0 rfl (by decide) kfl_X6_23 dX6_filled_45 (fun o19 hg => ?_)
          replace hf := hg
          refine lv_iload_n X.1 X.2.1 dX6_filled_48 rfl (lv_at hl 3 rfl) ?_
          obtain ⟨a20, rfl, k22, hg⟩ := zh_dr hf
          replace hf := hg
          obtain ⟨o23, h24, hg⟩ := zh_bd hf
          replace hf := hg
          refine ze_aftQ0 (ze_runV (As := [.int x2]) (rest := []) X 4 107 (c_X4_term l D B n k22 h24) vX4_term kml_X6_107 hW k22 rfl rfl ⟨by decide, by decide⟩ rfl hl.1 rfl (Nat.le_of_ble_eq_true rfl) ⟨Nat.le_refl _, Nat.le_refl _⟩ dX6_filled_49) hW (fun H locs hV => ?_)
          replace hW := hV
          refine ze_astore (lv' := [(6, zrf B o23), (5, zrf B o17), (0, .ref (B + a0)), (1, .int x1), (2, .int x2), (3, .int x3), (4, .int x4)]) X.1 X.2.1 dX6_filled_52 hl (by decide) (by first | rfl | (simp [zcat, zcat_i, zcat_r, zcat_l, zrf_some]; done) | (simp [zcat, zcat_i, zcat_r, zcat_l, zrf_some]; decide)) (fun ls hk => ?_)
          replace hl := hk
          refine ze_aload X.1 X.2.1 dX6_filled_54 (lv_at hl 1 rfl) ?_
          refine ze_ifnull (tgt := 64) X.1 X.2.1 dX6_filled_56 (by decide) (fun c26 => ?_) (fun a25 c26 => ?_)
          · replace hf := zcs_none c26 hf
            subst c26
            refine lv_bipush (v := -2) X.1 X.2.1 dX6_filled_64 (by decide) ?_
            obtain ⟨rfl, rfl, rfl⟩ := zi3 hf
            exact ze_retI X hr hlk hW (Nat.le_refl _) (Nat.le_refl _) dX6_filled_66
          · replace hf := zcs_some c26 hf
            subst c26
            refine ze_aload X.1 X.2.1 dX6_filled_59 (lv_at hl 0 rfl) ?_
            refine ze_ifnonnull (tgt := 67) X.1 X.2.1 dX6_filled_61 (by decide) (fun a27 c28 => ?_) (fun c28 => ?_)
            · replace hf := zcs_some c28 hf
              subst c28
              refine lv_aload_n X.1 X.2.1 dX6_filled_67 rfl (lv_at hl 2 rfl) ?_
              refine ze_gtR X 6 9 58 (RX6, TX6, 11) rfl hf hW hK0 rfl (by decide) kfl_X6_58 dX6_filled_68 (fun o29 hg => ?_)
              replace hf := hg
              refine lv_aload X.1 X.2.1 dX6_filled_71 (lv_at hl 1 rfl) ?_
              refine lv_aload X.1 X.2.1 dX6_filled_73 (lv_at hl 0 rfl) ?_
              obtain ⟨a30, rfl, k32, hg⟩ := zh_dr hf
              replace hf := hg
              obtain ⟨v33, I34, R35, h36, hg⟩ := zh_bd3 hf
              replace hf := hg
              refine ze_aftI0 (ze_runV (As := [.ref (B + a25), .ref (B + a27)]) (rest := []) X 1 167 (c_X1_matches l D B n k32 h36) vX1_matches kml_X6_167 hW k32 rfl rfl ⟨by decide, by decide⟩ rfl hl.1 rfl (Nat.le_of_ble_eq_true rfl) ⟨Nat.le_refl _, Nat.le_refl _⟩ dX6_filled_75) hW (fun H locs hV => ?_)
              replace hW := hV
              refine lv_if_eq (tgt := 94) X.1 X.2.1 dX6_filled_78 (by decide) (fun c37 => ?_) (fun c37 => ?_)
              · replace hf := zif_pos c37 hf
                refine lv_bipush (v := -9) X.1 X.2.1 dX6_filled_94 (by decide) ?_
                obtain ⟨rfl, rfl, rfl⟩ := zi3 hf
                exact ze_retI X hr hlk hW (Nat.le_refl _) (Nat.le_refl _) dX6_filled_96
              · replace hf := zif_neg c37 hf
                refine lv_aload_n X.1 X.2.1 dX6_filled_81 rfl (lv_at hl 2 rfl) ?_
                refine ze_gtR X 6 9 58 (RX6, TX6, 11) rfl hf hW hK0 rfl (by decide) kfl_X6_58 dX6_filled_82 (fun o38 hg => ?_)
                replace hf := hg
                refine lv_iload_n X.1 X.2.1 dX6_filled_85 rfl (lv_at hl 5 rfl) ?_
                refine lv_iload X.1 X.2.1 dX6_filled_86 (lv_at hl 6 rfl) ?_
                obtain ⟨a39, rfl, k41, hg⟩ := zh_dr hf
                replace hf := hg
                obtain ⟨v42, h43, hg⟩ := zh_bd hf
                replace hf := hg
                refine ze_aftI0 (ze_runV (As := [.int x3, .int x4]) (rest := []) X 1 171 (c_X1_filling l D B n k41 h43) vX1_filling kml_X6_171 hW k41 rfl rfl ⟨by decide, by decide⟩ rfl hl.1 rfl (Nat.le_of_ble_eq_true rfl) ⟨Nat.le_refl _, Nat.le_refl _⟩ dX6_filled_88) hW (fun H locs hV => ?_)
                replace hW := hV
                refine lv_goto (tgt := 96) X.1 X.2.1 dX6_filled_91 (by decide) ?_
                obtain ⟨rfl, rfl, rfl⟩ := zi3 hf
                exact ze_retI X hr hlk hW (Nat.le_refl _) (Nat.le_refl _) dX6_filled_96
            · replace hf := zcs_none c28 hf
              subst c28
              refine lv_bipush (v := -2) X.1 X.2.1 dX6_filled_64 (by decide) ?_
              obtain ⟨rfl, rfl, rfl⟩ := zi3 hf
              exact ze_retI X hr hlk hW (Nat.le_refl _) (Nat.le_refl _) dX6_filled_66
        · replace hf := zif_neg c12 hf
          refine lv_iconst (v := -1) X.1 X.2.1 dX6_filled_32 (by decide) ?_
          obtain ⟨rfl, rfl, rfl⟩ := zi3 hf
          exact ze_retI X hr hlk hW (Nat.le_refl _) (Nat.le_refl _) dX6_filled_33
end

/-! LeastPatterns.compare(II)I -/
def f_X6_compare (F : Nat) (K : zK) (I : zI) (R : zR) (a0 : Nat) (x1 : Int32) (x2 : Int32) : Option (Int32 × zI × zR) :=
  zbd (f_X6_noRegister F K I R x1) fun v1 =>
  if v1 = (0 : Int32) then
    zbd (f_X6_noRegister F K I R x2) fun v4 =>
    if v4 = (0 : Int32) then
      zbd (some (R a0 3)) fun o7 =>
      zbd (zdr K o7 14) fun a8 =>
      zbd (f_X4_term F K I R a8 x1) fun o11 =>
      zbd (some (R a0 3)) fun o13 =>
      zbd (zdr K o13 14) fun a14 =>
      zbd (f_X4_term F K I R a14 x2) fun o17 =>
      zcs o11 (
        some ((-2 : Int32), I, R)
      ) fun a19 =>
        zcs o17 (
          some ((-2 : Int32), I, R)
        ) fun a21 =>
          zbd (some (R a0 9)) fun o23 =>
          zbd (zdr K o23 11) fun a24 =>
          zbd3 (f_X1_matches F K I R a24 (some a19) (some a21)) fun v27 I28 R29 =>
          zbd (some (R29 a0 9)) fun o31 =>
          zbd (zdr K o31 11) fun a32 =>
          zbd3 (f_X1_matches F K I28 R29 a32 (some a21) (some a19)) fun v35 I36 R37 =>
          if v27 = (0 : Int32) then
            if v35 = (0 : Int32) then
              some ((3 : Int32), I36, R37)
            else
              some ((2 : Int32), I36, R37)
          else
            if v35 = (0 : Int32) then
              some ((1 : Int32), I36, R37)
            else
              some ((0 : Int32), I36, R37)
    else
      some ((-1 : Int32), I, R)
  else
    some ((-1 : Int32), I, R)
section
variable {p : Program} {l : Launch} {e : Env} {s : State} {m : MethodId} {args : Array Value} {below : List Frame} {meth : Method} {c : Code} {D : zD} {B n n0 n' fd ld : Nat} {K K0 K' : zK} {I I' : zI} {R R' : zR} {H : Heap} {locs : List Loc} {ls : Array Slot} {r : Int32}
set_option maxRecDepth 100000 in
set_option maxHeartbeats 4000000 in
theorem c_X6_compare (l : Launch) (D : zD) (B n : Nat) {F : Nat} {K : zK} {I : zI} {R : zR} {a0 : Nat} {x1 : Int32} {x2 : Int32} {r : Int32} {I' : zI} {R' : zR} (hK0 : (K a0).1 = 16) (hf : f_X6_compare F K I R a0 x1 x2 = some (r, I', R')) : zM l yX6_compare cX6_compare 7 (some .int) ({ frames := 6, cells := 0, slots := 0, locals := 159 } : Room) D B n K I R [.ref (B + a0), .int x1, .int x2] (zQi D (zOwn B K (B + n)) r B n K I' R') := by
  refine ze_entry (lv0 := [(0, .ref (B + a0)), (1, .int x1), (2, .int x2)]) (by decide) (by simp [lg_sl, zcat, zcat_i, zcat_r, zcat_l]) (by simp [lv_args, zcat, zcat_i, zcat_r, zcat_l]) (fun p e s m below meth c X hr hlk hin hW ls hl => ?_)
  unfold f_X6_compare at hf
  refine lv_iload_n X.1 X.2.1 dX6_compare_0 rfl (lv_at hl 1 rfl) ?_
  obtain ⟨v1, h2, hg⟩ := zh_bd hf
  replace hf := hg
  refine ze_aftI0 (ze_runS (As := [.int x1]) (rest := []) X 69 (c_X6_noRegister l D B n h2) vX6_noRegister kml_X6_69 hW ⟨by decide, by decide⟩ rfl hl.1 rfl (Nat.le_of_ble_eq_true rfl) ⟨Nat.le_refl _, Nat.le_refl _⟩ dX6_compare_1) hW (fun H locs hV => ?_)
  replace hW := hV
  refine lv_if_ne (tgt := 14) X.1 X.2.1 dX6_compare_4 (by decide) (fun c3 => ?_) (fun c3 => ?_)
  · replace hf := zif_neg c3 hf
    refine lv_iconst (v := -1) X.1 X.2.1 dX6_compare_14 (by decide) ?_
    obtain ⟨rfl, rfl, rfl⟩ := zi3 hf
    exact ze_retI X hr hlk hW (Nat.le_refl _) (Nat.le_refl _) dX6_compare_15
  · replace hf := zif_pos c3 hf
    refine lv_iload_n X.1 X.2.1 dX6_compare_7 rfl (lv_at hl 2 rfl) ?_
    obtain ⟨v4, h5, hg⟩ := zh_bd hf
    replace hf := hg
    refine ze_aftI0 (ze_runS (As := [.int x2]) (rest := []) X 69 (c_X6_noRegister l D B n h5) vX6_noRegister kml_X6_69 hW ⟨by decide, by decide⟩ rfl hl.1 rfl (Nat.le_of_ble_eq_true rfl) ⟨Nat.le_refl _, Nat.le_refl _⟩ dX6_compare_8) hW (fun H locs hV => ?_)
    replace hW := hV
    refine lv_if_eq (tgt := 16) X.1 X.2.1 dX6_compare_11 (by decide) (fun c6 => ?_) (fun c6 => ?_)
    · replace hf := zif_pos c6 hf
      refine lv_aload_n X.1 X.2.1 dX6_compare_16 rfl (lv_at hl 0 rfl) ?_
      refine ze_gtR X 6 3 23 (RX6, TX6, 11) rfl hf hW hK0 rfl (by decide) kfl_X6_23 dX6_compare_17 (fun o7 hg => ?_)
      replace hf := hg
      refine lv_iload_n X.1 X.2.1 dX6_compare_20 rfl (lv_at hl 1 rfl) ?_
      obtain ⟨a8, rfl, k10, hg⟩ := zh_dr hf
      replace hf := hg
      obtain ⟨o11, h12, hg⟩ := zh_bd hf
      replace hf := hg
      refine ze_aftQ0 (ze_runV (As := [.int x1]) (rest := []) X 4 107 (c_X4_term l D B n k10 h12) vX4_term kml_X6_107 hW k10 rfl rfl ⟨by decide, by decide⟩ rfl hl.1 rfl (Nat.le_of_ble_eq_true rfl) ⟨Nat.le_refl _, Nat.le_refl _⟩ dX6_compare_21) hW (fun H locs hV => ?_)
      replace hW := hV
      refine ze_astore_n (i := 3) (lv' := [(3, zrf B o11), (0, .ref (B + a0)), (1, .int x1), (2, .int x2)]) X.1 X.2.1 dX6_compare_24 rfl hl (by decide) rfl (fun ls hk => ?_)
      replace hl := hk
      refine lv_aload_n X.1 X.2.1 dX6_compare_25 rfl (lv_at hl 1 rfl) ?_
      refine ze_gtR X 6 3 23 (RX6, TX6, 11) rfl hf hW hK0 rfl (by decide) kfl_X6_23 dX6_compare_26 (fun o13 hg => ?_)
      replace hf := hg
      refine lv_iload_n X.1 X.2.1 dX6_compare_29 rfl (lv_at hl 3 rfl) ?_
      obtain ⟨a14, rfl, k16, hg⟩ := zh_dr hf
      replace hf := hg
      obtain ⟨o17, h18, hg⟩ := zh_bd hf
      replace hf := hg
      refine ze_aftQ0 (ze_runV (As := [.int x2]) (rest := []) X 4 107 (c_X4_term l D B n k16 h18) vX4_term kml_X6_107 hW k16 rfl rfl ⟨by decide, by decide⟩ rfl hl.1 rfl (Nat.le_of_ble_eq_true rfl) ⟨Nat.le_refl _, Nat.le_refl _⟩ dX6_compare_30) hW (fun H locs hV => ?_)
      replace hW := hV
      refine ze_astore (lv' := [(4, zrf B o17), (3, zrf B o11), (0, .ref (B + a0)), (1, .int x1), (2, .int x2)]) X.1 X.2.1 dX6_compare_33 hl (by decide) (by first | rfl | (simp [zcat, zcat_i, zcat_r, zcat_l, zrf_some]; done) | (simp [zcat, zcat_i, zcat_r, zcat_l, zrf_some]; decide)) (fun ls hk => ?_)
      replace hl := hk
      refine ze_aload_n X.1 X.2.1 dX6_compare_35 rfl (lv_at hl 1 rfl) ?_
      refine ze_ifnull (tgt := 44) X.1 X.2.1 dX6_compare_36 (by decide) (fun c20 => ?_) (fun a19 c20 => ?_)
      · replace hf := zcs_none c20 hf
        subst c20
        refine lv_bipush (v := -2) X.1 X.2.1 dX6_compare_44 (by decide) ?_
        obtain ⟨rfl, rfl, rfl⟩ := zi3 hf
        exact ze_retI X hr hlk hW (Nat.le_refl _) (Nat.le_refl _) dX6_compare_46
      · replace hf := zcs_some c20 hf
        subst c20
        refine ze_aload X.1 X.2.1 dX6_compare_39 (lv_at hl 0 rfl) ?_
        refine ze_ifnonnull (tgt := 47) X.1 X.2.1 dX6_compare_41 (by decide) (fun a21 c22 => ?_) (fun c22 => ?_)
        · replace hf := zcs_some c22 hf
          subst c22
          refine lv_aload_n X.1 X.2.1 dX6_compare_47 rfl (lv_at hl 2 rfl) ?_
          refine ze_gtR X 6 9 58 (RX6, TX6, 11) rfl hf hW hK0 rfl (by decide) kfl_X6_58 dX6_compare_48 (fun o23 hg => ?_)
          replace hf := hg
          refine lv_aload_n X.1 X.2.1 dX6_compare_51 rfl (lv_at hl 1 rfl) ?_
          refine lv_aload X.1 X.2.1 dX6_compare_52 (lv_at hl 0 rfl) ?_
          obtain ⟨a24, rfl, k26, hg⟩ := zh_dr hf
          replace hf := hg
          obtain ⟨v27, I28, R29, h30, hg⟩ := zh_bd3 hf
          replace hf := hg
          refine ze_aftI0 (ze_runV (As := [.ref (B + a19), .ref (B + a21)]) (rest := []) X 1 167 (c_X1_matches l D B n k26 h30) vX1_matches kml_X6_167 hW k26 rfl rfl ⟨by decide, by decide⟩ rfl hl.1 rfl (Nat.le_of_ble_eq_true rfl) ⟨Nat.le_refl _, Nat.le_refl _⟩ dX6_compare_54) hW (fun H locs hV => ?_)
          replace hW := hV
          refine lv_istore (lv' := [(5, .int v27), (4, .ref (B + a21)), (3, .ref (B + a19)), (0, .ref (B + a0)), (1, .int x1), (2, .int x2)]) X.1 X.2.1 dX6_compare_57 hl (by decide) rfl (fun ls hk => ?_)
          replace hl := hk
          refine lv_aload_n X.1 X.2.1 dX6_compare_59 rfl (lv_at hl 3 rfl) ?_
          refine ze_gtR X 6 9 58 (RX6, TX6, 11) rfl hf hW hK0 rfl (by decide) kfl_X6_58 dX6_compare_60 (fun o31 hg => ?_)
          replace hf := hg
          refine lv_aload X.1 X.2.1 dX6_compare_63 (lv_at hl 1 rfl) ?_
          refine lv_aload_n X.1 X.2.1 dX6_compare_65 rfl (lv_at hl 2 rfl) ?_
          obtain ⟨a32, rfl, k34, hg⟩ := zh_dr hf
          replace hf := hg
          obtain ⟨v35, I36, R37, h38, hg⟩ := zh_bd3 hf
          replace hf := hg
          refine ze_aftI0 (ze_runV (As := [.ref (B + a21), .ref (B + a19)]) (rest := []) X 1 167 (c_X1_matches l D B n k34 h38) vX1_matches kml_X6_167 hW k34 rfl rfl ⟨by decide, by decide⟩ rfl hl.1 rfl (Nat.le_of_ble_eq_true rfl) ⟨Nat.le_refl _, Nat.le_refl _⟩ dX6_compare_66) hW (fun H locs hV => ?_)
          replace hW := hV
          refine lv_istore (lv' := [(6, .int v35), (5, .int v27), (4, .ref (B + a21)), (3, .ref (B + a19)), (0, .ref (B + a0)), (1, .int x1), (2, .int x2)]) X.1 X.2.1 dX6_compare_69 hl (by decide) rfl (fun ls hk => ?_)
          replace hl := hk
          refine lv_iload X.1 X.2.1 dX6_compare_71 (lv_at hl 1 rfl) ?_
          refine lv_if_eq (tgt := 87) X.1 X.2.1 dX6_compare_73 (by decide) (fun c39 => ?_) (fun c39 => ?_)
          · replace hf := zif_pos c39 hf
            refine lv_iload X.1 X.2.1 dX6_compare_87 (lv_at hl 0 rfl) ?_
            refine lv_if_eq (tgt := 96) X.1 X.2.1 dX6_compare_89 (by decide) (fun c40 => ?_) (fun c40 => ?_)
            · replace hf := zif_pos c40 hf
              refine lv_iconst (v := 3) X.1 X.2.1 dX6_compare_96 (by decide) ?_
              obtain ⟨rfl, rfl, rfl⟩ := zi3 hf
              exact ze_retI X hr hlk hW (Nat.le_refl _) (Nat.le_refl _) dX6_compare_97
            · replace hf := zif_neg c40 hf
              refine lv_iconst (v := 2) X.1 X.2.1 dX6_compare_92 (by decide) ?_
              refine lv_goto (tgt := 97) X.1 X.2.1 dX6_compare_93 (by decide) ?_
              obtain ⟨rfl, rfl, rfl⟩ := zi3 hf
              exact ze_retI X hr hlk hW (Nat.le_refl _) (Nat.le_refl _) dX6_compare_97
          · replace hf := zif_neg c39 hf
            refine lv_iload X.1 X.2.1 dX6_compare_76 (lv_at hl 0 rfl) ?_
            refine lv_if_eq (tgt := 85) X.1 X.2.1 dX6_compare_78 (by decide) (fun c41 => ?_) (fun c41 => ?_)
            · replace hf := zif_pos c41 hf
              refine lv_iconst (v := 1) X.1 X.2.1 dX6_compare_85 (by decide) ?_
              obtain ⟨rfl, rfl, rfl⟩ := zi3 hf
              exact ze_retI X hr hlk hW (Nat.le_refl _) (Nat.le_refl _) dX6_compare_86
            · replace hf := zif_neg c41 hf
              refine lv_iconst (v := 0) X.1 X.2.1 dX6_compare_81 (by decide) ?_
              refine lv_goto (tgt := 86) X.1 X.2.1 dX6_compare_82 (by decide) ?_
              obtain ⟨rfl, rfl, rfl⟩ := zi3 hf
              exact ze_retI X hr hlk hW (Nat.le_refl _) (Nat.le_refl _) dX6_compare_86
        · replace hf := zcs_none c22 hf
          subst c22
          refine lv_bipush (v := -2) X.1 X.2.1 dX6_compare_44 (by decide) ?_
          obtain ⟨rfl, rfl, rfl⟩ := zi3 hf
          exact ze_retI X hr hlk hW (Nat.le_refl _) (Nat.le_refl _) dX6_compare_46
    · replace hf := zif_neg c6 hf
      refine lv_iconst (v := -1) X.1 X.2.1 dX6_compare_14 (by decide) ?_
      obtain ⟨rfl, rfl, rfl⟩ := zi3 hf
      exact ze_retI X hr hlk hW (Nat.le_refl _) (Nat.le_refl _) dX6_compare_15
end

/-! LeastPatterns.covered(I)I -/
def f_X6_covered_73 (F : Nat) (K : zK) (a0 : Nat) (k30 : zI → zR → Option Nat → Int32 → Int32 → Option (Int32 × zI × zR)) (I : zI) (R : zR) (x2 : Option Nat) (x3 : Int32) (x4 : Int32) : Option (Int32 × zI × zR) :=
  k30 I R x2 x3 (x4 + (1 : Int32))
def g_X6_covered_30 (F : Nat) (K : zK) (a0 : Nat)  (kself : zI → zR → Option Nat → Int32 → Int32 → Option (Int32 × zI × zR)) (I : zI) (R : zR) (x2 : Option Nat) (x3 : Int32) (x4 : Int32) : Option (Int32 × zI × zR) :=
  if (8 : Int32) ≤ x4 then
    some (x3, I, R)
  else
    zbd (some (R a0 3)) fun o2 =>
    zbd (zdr K o2 14) fun a3 =>
    zbd (f_X4_term F K I R a3 x4) fun o6 =>
    zcs o6 (
      f_X6_covered_73 F K a0 kself I R x2 x3 x4
    ) fun a8 =>
      zbd (some (R a0 9)) fun o10 =>
      zbd (zdr K o10 11) fun a11 =>
      zbd3 (f_X1_matches F K I R a11 x2 (some a8)) fun v14 I15 R16 =>
      if v14 = (0 : Int32) then
        f_X6_covered_73 F K a0 kself I15 R16 x2 x3 x4
      else
        zbd (some (x3 ||| ((1 : Int32) <<< (x4 &&& 31)))) fun v19 =>
        f_X6_covered_73 F K a0 kself I15 R16 x2 v19 x4
def f_X6_covered_30 (F : Nat) (K : zK) (a0 : Nat)  : Nat → zI → zR → Option Nat → Int32 → Int32 → Option (Int32 × zI × zR)
  | 0, _, _, _, _, _ => none
  | t + 1, I, R, x2, x3, x4 => g_X6_covered_30 F K a0  (f_X6_covered_30 F K a0  t) I R x2 x3 x4
def f_X6_covered (F : Nat) (K : zK) (I : zI) (R : zR) (a0 : Nat) (x1 : Int32) : Option (Int32 × zI × zR) :=
  zbd (f_X6_noRegister F K I R x1) fun v20 =>
  if v20 = (0 : Int32) then
    zbd (some (R a0 3)) fun o23 =>
    zbd (zdr K o23 14) fun a24 =>
    zbd (f_X4_term F K I R a24 x1) fun o27 =>
    zcs o27 (
      some ((-2 : Int32), I, R)
    ) fun a29 =>
      f_X6_covered_30 F K a0 F I R (some a29) (0 : Int32) (0 : Int32)
  else
    some ((-1 : Int32), I, R)
section
variable {p : Program} {l : Launch} {e : Env} {s : State} {m : MethodId} {args : Array Value} {below : List Frame} {meth : Method} {c : Code} {D : zD} {B n n0 n' fd ld : Nat} {K K0 K' : zK} {I I' : zI} {R R' : zR} {H : Heap} {locs : List Loc} {ls : Array Slot} {r : Int32}
set_option maxRecDepth 100000 in
set_option maxHeartbeats 4000000 in
theorem w_X6_covered_73 {F : Nat} {a0 : Nat} {k30 : zI → zR → Option Nat → Int32 → Int32 → Option (Int32 × zI × zR)} (X : zX p s m c cX6_covered 6 RX6 D) (hr : meth.sig.returnType = some .int) (hlk : meth.locks = false) (hK0 : (K a0).1 = 16) (hk30 : ∀ (I : zI) (R : zR) (x2 : Option Nat) (x3 : Int32) (x4 : Int32) (H : Heap) (locs : List Loc) (ls : Array Slot), k30 I R x2 x3 x4 = some (r, I', R') → zS (zOwn B K (B + n)) D B n K I R s.heap H locs → lv_has ls 6 [(0, .ref (B + a0)), (2, zrf B x2), (3, .int x3), (4, .int x4)] → W p l e ({ frames := 6, cells := 0, slots := 0, locals := 159 } : Room) s m args below meth c H locs 0 0 (MQ below (zQi D (zOwn B K (B + n)) r B n K I' R') args s 0 0 (zOwn B K (B + n))) (F0 m 30 ls [])) {x2 : Option Nat} {x3 : Int32} {x4 : Int32} (hf : f_X6_covered_73 F K a0 k30 I R x2 x3 x4 = some (r, I', R')) (hW : zS (zOwn B K (B + n)) D B n K I R s.heap H locs) (hl : lv_has ls 6 [(0, .ref (B + a0)), (2, zrf B x2), (3, .int x3), (4, .int x4)]) : W p l e ({ frames := 6, cells := 0, slots := 0, locals := 159 } : Room) s m args below meth c H locs 0 0 (MQ below (zQi D (zOwn B K (B + n)) r B n K I' R') args s 0 0 (zOwn B K (B + n))) (F0 m 73 ls []) := by
  unfold f_X6_covered_73 at hf
  refine ze_iinc (lv' := [(4, .int (x4 + (1 : Int32))), (0, .ref (B + a0)), (2, zrf B x2), (3, .int x3)]) (d := 1) X.1 X.2.1 dX6_covered_73 hl (k := 3) rfl (by decide) (by decide) rfl (fun ls hk => ?_)
  replace hl := hk
  refine lv_goto (tgt := 30) X.1 X.2.1 dX6_covered_76 (by decide) ?_
  exact hk30 _ _ _ _ _ _ _ _ hf hW (lv_sub hl [1, 2, 3, 0] rfl)
set_option maxRecDepth 100000 in
set_option maxHeartbeats 4000000 in
theorem wg_X6_covered_30 {F : Nat} {a0 : Nat}  (X : zX p s m c cX6_covered 6 RX6 D) (hr : meth.sig.returnType = some .int) (hlk : meth.locks = false) (hK0 : (K a0).1 = 16)  {kself : zI → zR → Option Nat → Int32 → Int32 → Option (Int32 × zI × zR)} (hkself : ∀ (I : zI) (R : zR) (x2 : Option Nat) (x3 : Int32) (x4 : Int32) (H : Heap) (locs : List Loc) (ls : Array Slot), kself I R x2 x3 x4 = some (r, I', R') → zS (zOwn B K (B + n)) D B n K I R s.heap H locs → lv_has ls 6 [(0, .ref (B + a0)), (2, zrf B x2), (3, .int x3), (4, .int x4)] → W p l e ({ frames := 6, cells := 0, slots := 0, locals := 159 } : Room) s m args below meth c H locs 0 0 (MQ below (zQi D (zOwn B K (B + n)) r B n K I' R') args s 0 0 (zOwn B K (B + n))) (F0 m 30 ls [])) {x2 : Option Nat} {x3 : Int32} {x4 : Int32} (hf : g_X6_covered_30 F K a0  kself I R x2 x3 x4 = some (r, I', R')) (hW : zS (zOwn B K (B + n)) D B n K I R s.heap H locs) (hl : lv_has ls 6 [(0, .ref (B + a0)), (2, zrf B x2), (3, .int x3), (4, .int x4)]) : W p l e ({ frames := 6, cells := 0, slots := 0, locals := 159 } : Room) s m args below meth c H locs 0 0 (MQ below (zQi D (zOwn B K (B + n)) r B n K I' R') args s 0 0 (zOwn B K (B + n))) (F0 m 30 ls []) := by
  unfold g_X6_covered_30 at hf
  refine lv_iload X.1 X.2.1 dX6_covered_30 (lv_at hl 3 rfl) ?_
  refine lv_bipush (v := 8) X.1 X.2.1 dX6_covered_32 (by decide) ?_
  refine lv_icmp_ge (tgt := 79) X.1 X.2.1 dX6_covered_34 (by decide) (fun c1 => ?_) (fun c1 => ?_)
  · replace hf := zif_pos c1 hf
    refine lv_iload_n X.1 X.2.1 dX6_covered_79 rfl (lv_at hl 2 rfl) ?_
    obtain ⟨rfl, rfl, rfl⟩ := zi3 hf
    exact ze_retI X hr hlk hW (Nat.le_refl _) (Nat.le_refl _) dX6_covered_80
  · replace hf := zif_neg c1 hf
    refine lv_aload_n X.1 X.2.1 dX6_covered_37 rfl (lv_at hl 0 rfl) ?_
    refine ze_gtR X 6 3 23 (RX6, TX6, 11) rfl hf hW hK0 rfl (by decide) kfl_X6_23 dX6_covered_38 (fun o2 hg => ?_)
    replace hf := hg
    refine lv_iload X.1 X.2.1 dX6_covered_41 (lv_at hl 3 rfl) ?_
    obtain ⟨a3, rfl, k5, hg⟩ := zh_dr hf
    replace hf := hg
    obtain ⟨o6, h7, hg⟩ := zh_bd hf
    replace hf := hg
    refine ze_aftQ0 (ze_runV (As := [.int x4]) (rest := []) X 4 107 (c_X4_term l D B n k5 h7) vX4_term kml_X6_107 hW k5 rfl rfl ⟨by decide, by decide⟩ rfl hl.1 rfl (Nat.le_of_ble_eq_true rfl) ⟨Nat.le_refl _, Nat.le_refl _⟩ dX6_covered_43) hW (fun H locs hV => ?_)
    replace hW := hV
    refine ze_astore (lv' := [(5, zrf B o6), (0, .ref (B + a0)), (2, zrf B x2), (3, .int x3), (4, .int x4)]) X.1 X.2.1 dX6_covered_46 hl (by decide) rfl (fun ls hk => ?_)
    replace hl := hk
    refine ze_aload X.1 X.2.1 dX6_covered_48 (lv_at hl 0 rfl) ?_
    refine ze_ifnull (tgt := 73) X.1 X.2.1 dX6_covered_50 (by decide) (fun c9 => ?_) (fun a8 c9 => ?_)
    · replace hf := zcs_none c9 hf
      subst c9
      exact w_X6_covered_73 X hr hlk hK0 hkself hf hW (lv_sub hl [1, 2, 3, 4] rfl)
    · replace hf := zcs_some c9 hf
      subst c9
      refine lv_aload_n X.1 X.2.1 dX6_covered_53 rfl (lv_at hl 1 rfl) ?_
      refine ze_gtR X 6 9 58 (RX6, TX6, 11) rfl hf hW hK0 rfl (by decide) kfl_X6_58 dX6_covered_54 (fun o10 hg => ?_)
      replace hf := hg
      refine ze_aload_n X.1 X.2.1 dX6_covered_57 rfl (lv_at hl 2 rfl) ?_
      refine lv_aload X.1 X.2.1 dX6_covered_58 (lv_at hl 0 rfl) ?_
      obtain ⟨a11, rfl, k13, hg⟩ := zh_dr hf
      replace hf := hg
      obtain ⟨v14, I15, R16, h17, hg⟩ := zh_bd3 hf
      replace hf := hg
      refine ze_aftI0 (ze_runV (As := [zrf B x2, .ref (B + a8)]) (rest := []) X 1 167 (c_X1_matches l D B n k13 h17) vX1_matches kml_X6_167 hW k13 rfl rfl ⟨by decide, by decide⟩ rfl hl.1 rfl (Nat.le_of_ble_eq_true rfl) ⟨Nat.le_refl _, Nat.le_refl _⟩ dX6_covered_60) hW (fun H locs hV => ?_)
      replace hW := hV
      refine lv_if_eq (tgt := 73) X.1 X.2.1 dX6_covered_63 (by decide) (fun c18 => ?_) (fun c18 => ?_)
      · replace hf := zif_pos c18 hf
        exact w_X6_covered_73 X hr hlk hK0 hkself hf hW (lv_sub hl [1, 2, 3, 4] rfl)
      · replace hf := zif_neg c18 hf
        refine lv_iload_n X.1 X.2.1 dX6_covered_66 rfl (lv_at hl 3 rfl) ?_
        refine lv_iconst (v := 1) X.1 X.2.1 dX6_covered_67 (by decide) ?_
        refine lv_iload X.1 X.2.1 dX6_covered_68 (lv_at hl 4 rfl) ?_
        refine lv_ishl X.1 X.2.1 dX6_covered_70 ?_
        refine lv_ior X.1 X.2.1 dX6_covered_71 ?_
        refine ze_nm hf (fun v19 hg => ?_)
        replace hf := hg
        refine lv_istore_n (i := 3) (lv' := [(3, .int v19), (5, .ref (B + a8)), (0, .ref (B + a0)), (2, zrf B x2), (4, .int x4)]) X.1 X.2.1 dX6_covered_72 rfl hl (by decide) (by first | rfl | (simp [zcat, zcat_i, zcat_r, zcat_l, zrf_some]; done) | (simp [zcat, zcat_i, zcat_r, zcat_l, zrf_some]; decide)) (fun ls hk => ?_)
        replace hl := hk
        exact w_X6_covered_73 X hr hlk hK0 hkself hf hW (lv_sub hl [2, 3, 0, 4] rfl)
set_option maxRecDepth 100000 in
set_option maxHeartbeats 4000000 in
theorem w_X6_covered_30 {F : Nat} {a0 : Nat}  (X : zX p s m c cX6_covered 6 RX6 D) (hr : meth.sig.returnType = some .int) (hlk : meth.locks = false) (hK0 : (K a0).1 = 16)  {t : Nat} {x2 : Option Nat} {x3 : Int32} {x4 : Int32} (hf : f_X6_covered_30 F K a0  t I R x2 x3 x4 = some (r, I', R')) (hW : zS (zOwn B K (B + n)) D B n K I R s.heap H locs) (hl : lv_has ls 6 [(0, .ref (B + a0)), (2, zrf B x2), (3, .int x3), (4, .int x4)]) : W p l e ({ frames := 6, cells := 0, slots := 0, locals := 159 } : Room) s m args below meth c H locs 0 0 (MQ below (zQi D (zOwn B K (B + n)) r B n K I' R') args s 0 0 (zOwn B K (B + n))) (F0 m 30 ls []) := by
  have key : ∀ t : Nat, ∀ (I : zI) (R : zR) (x2 : Option Nat) (x3 : Int32) (x4 : Int32) (H : Heap) (locs : List Loc) (ls : Array Slot), f_X6_covered_30 F K a0  t I R x2 x3 x4 = some (r, I', R') → zS (zOwn B K (B + n)) D B n K I R s.heap H locs → lv_has ls 6 [(0, .ref (B + a0)), (2, zrf B x2), (3, .int x3), (4, .int x4)] → W p l e ({ frames := 6, cells := 0, slots := 0, locals := 159 } : Room) s m args below meth c H locs 0 0 (MQ below (zQi D (zOwn B K (B + n)) r B n K I' R') args s 0 0 (zOwn B K (B + n))) (F0 m 30 ls []) := by
    intro t
    induction t with
    | zero =>
      intro I R x2 x3 x4 H locs ls hf hW hl
      cases hf
    | succ t ih =>
      intro I R x2 x3 x4 H locs ls hf hW hl
      exact wg_X6_covered_30 X hr hlk hK0  ih hf hW hl
  exact key t _ _ _ _ _ _ _ _ hf hW hl
set_option maxRecDepth 100000 in
set_option maxHeartbeats 4000000 in
theorem c_X6_covered (l : Launch) (D : zD) (B n : Nat) {F : Nat} {K : zK} {I : zI} {R : zR} {a0 : Nat} {x1 : Int32} {r : Int32} {I' : zI} {R' : zR} (hK0 : (K a0).1 = 16) (hf : f_X6_covered F K I R a0 x1 = some (r, I', R')) : zM l yX6_covered cX6_covered 6 (some .int) ({ frames := 6, cells := 0, slots := 0, locals := 159 } : Room) D B n K I R [.ref (B + a0), .int x1] (zQi D (zOwn B K (B + n)) r B n K I' R') := by
  refine ze_entry (lv0 := [(0, .ref (B + a0)), (1, .int x1)]) (by decide) (by simp [lg_sl, zcat, zcat_i, zcat_r, zcat_l]) (by simp [lv_args, zcat, zcat_i, zcat_r, zcat_l]) (fun p e s m below meth c X hr hlk hin hW ls hl => ?_)
  unfold f_X6_covered at hf
  refine lv_iload_n X.1 X.2.1 dX6_covered_0 rfl (lv_at hl 1 rfl) ?_
  obtain ⟨v20, h21, hg⟩ := zh_bd hf
  replace hf := hg
  refine ze_aftI0 (ze_runS (As := [.int x1]) (rest := []) X 69 (c_X6_noRegister l D B n h21) vX6_noRegister kml_X6_69 hW ⟨by decide, by decide⟩ rfl hl.1 rfl (Nat.le_of_ble_eq_true rfl) ⟨Nat.le_refl _, Nat.le_refl _⟩ dX6_covered_1) hW (fun H locs hV => ?_)
  replace hW := hV
  refine lv_if_eq (tgt := 9) X.1 X.2.1 dX6_covered_4 (by decide) (fun c22 => ?_) (fun c22 => ?_)
  · replace hf := zif_pos c22 hf
    refine lv_aload_n X.1 X.2.1 dX6_covered_9 rfl (lv_at hl 0 rfl) ?_
    refine ze_gtR X 6 3 23 (RX6, TX6, 11) rfl hf hW hK0 rfl (by decide) kfl_X6_23 dX6_covered_10 (fun o23 hg => ?_)
    replace hf := hg
    refine lv_iload_n X.1 X.2.1 dX6_covered_13 rfl (lv_at hl 1 rfl) ?_
    obtain ⟨a24, rfl, k26, hg⟩ := zh_dr hf
    replace hf := hg
    obtain ⟨o27, h28, hg⟩ := zh_bd hf
    replace hf := hg
    refine ze_aftQ0 (ze_runV (As := [.int x1]) (rest := []) X 4 107 (c_X4_term l D B n k26 h28) vX4_term kml_X6_107 hW k26 rfl rfl ⟨by decide, by decide⟩ rfl hl.1 rfl (Nat.le_of_ble_eq_true rfl) ⟨Nat.le_refl _, Nat.le_refl _⟩ dX6_covered_14) hW (fun H locs hV => ?_)
    replace hW := hV
    refine ze_astore_n (i := 2) (lv' := [(2, zrf B o27), (0, .ref (B + a0)), (1, .int x1)]) X.1 X.2.1 dX6_covered_17 rfl hl (by decide) rfl (fun ls hk => ?_)
    replace hl := hk
    refine ze_aload_n X.1 X.2.1 dX6_covered_18 rfl (lv_at hl 0 rfl) ?_
    refine ze_ifnonnull (tgt := 25) X.1 X.2.1 dX6_covered_19 (by decide) (fun a29 c30 => ?_) (fun c30 => ?_)
    · replace hf := zcs_some c30 hf
      subst c30
      refine lv_iconst (v := 0) X.1 X.2.1 dX6_covered_25 (by decide) ?_
      refine lv_istore_n (i := 3) (lv' := [(3, .int (0 : Int32)), (2, .ref (B + a29)), (0, .ref (B + a0)), (1, .int x1)]) X.1 X.2.1 dX6_covered_26 rfl hl (by decide) rfl (fun ls hk => ?_)
      replace hl := hk
      refine lv_iconst (v := 0) X.1 X.2.1 dX6_covered_27 (by decide) ?_
      refine lv_istore (lv' := [(4, .int (0 : Int32)), (3, .int (0 : Int32)), (2, .ref (B + a29)), (0, .ref (B + a0)), (1, .int x1)]) X.1 X.2.1 dX6_covered_28 hl (by decide) rfl (fun ls hk => ?_)
      replace hl := hk
      exact w_X6_covered_30 X hr hlk hK0 hf hW (lv_sub hl [3, 2, 1, 0] rfl)
    · replace hf := zcs_none c30 hf
      subst c30
      refine lv_bipush (v := -2) X.1 X.2.1 dX6_covered_22 (by decide) ?_
      obtain ⟨rfl, rfl, rfl⟩ := zi3 hf
      exact ze_retI X hr hlk hW (Nat.le_refl _) (Nat.le_refl _) dX6_covered_24
  · replace hf := zif_neg c22 hf
    refine lv_iconst (v := -1) X.1 X.2.1 dX6_covered_7 (by decide) ?_
    obtain ⟨rfl, rfl, rfl⟩ := zi3 hf
    exact ze_retI X hr hlk hW (Nat.le_refl _) (Nat.le_refl _) dX6_covered_8
end
