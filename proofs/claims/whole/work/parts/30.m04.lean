/-! LeastPatternsModel.apply(IIII)I -/
def f_X7_apply_48 (F : Nat) (K : zK) (R : zR) (a0 : Nat)  (I : zI) (x1 : Int32) (x2 : Int32) (x3 : Int32) (x4 : Int32) (s0 : Int32) : Option (Int32 × zI) :=
  if s0 = (0 : Int32) then
    zbd2 (f_X7_matches F K I R a0 ((97 : Int32) * x1) ((97 : Int32) * x3)) fun v2 I3 =>
    if v2 = (0 : Int32) then
      some ((-2 : Int32), I3)
    else
      zbd2 (f_X7_isApplicable F K I3 R a0 ((97 : Int32) * x1) ((97 : Int32) * x2) ((97 : Int32) * x3)) fun v6 I7 =>
      if v6 = (0 : Int32) then
        some ((-2 : Int32), I7)
      else
        zbd2 (f_X7_builds F K I7 R a0 ((97 : Int32) * x2) ((97 : Int32) * x3) (5654 : Int32)) fun v10 I11 =>
        if v10 = (0 : Int32) then
          some ((-3 : Int32), I11)
        else
          zbd (f_X7_records F K I11 R a0) fun I14 =>
          zbd2 (f_X7_puts F K I14 R a0 (5654 : Int32) x4) fun v16 I17 =>
          some (v16, I17)
  else
    some (s0, I)
def f_X7_apply_46 (F : Nat) (K : zK) (R : zR) (a0 : Nat)  (I : zI) (x1 : Int32) (x2 : Int32) (x3 : Int32) (x4 : Int32) (x5 : Int32) : Option (Int32 × zI) :=
  f_X7_apply_48 F K R a0 I x1 x2 x3 x4 x5
def f_X7_apply_23 (F : Nat) (K : zK) (R : zR) (a0 : Nat)  (I : zI) (x1 : Int32) (x2 : Int32) (x3 : Int32) (x4 : Int32) (s0 : Option Nat) (s1 : Int32) (s2 : Int32) (s3 : Int32) : Option (Int32 × zI) :=
  zbd (zdr K s0 17) fun a19 =>
  zbd (f_X7_wrong F K I R a19 s1 s2 s3) fun v22 =>
  if v22 = (0 : Int32) then
    zbd (f_X7_isEmpty F K I R a0 x3) fun v25 =>
    if v25 = (0 : Int32) then
      f_X7_apply_46 F K R a0 I x1 x2 x3 x4 v22
    else
      f_X7_apply_48 F K R a0 I x1 x2 x3 x4 (-2 : Int32)
  else
    f_X7_apply_46 F K R a0 I x1 x2 x3 x4 v22
def f_X7_apply_22 (F : Nat) (K : zK) (R : zR) (a0 : Nat)  (I : zI) (x1 : Int32) (x2 : Int32) (x3 : Int32) (x4 : Int32) (s0 : Option Nat) (s1 : Int32) (s2 : Int32) : Option (Int32 × zI) :=
  f_X7_apply_23 F K R a0 I x1 x2 x3 x4 s0 s1 s2 (0 : Int32)
def f_X7_apply (F : Nat) (K : zK) (I : zI) (R : zR) (a0 : Nat) (x1 : Int32) (x2 : Int32) (x3 : Int32) (x4 : Int32) : Option (Int32 × zI) :=
  zbd (f_X7_isRegister F K I R x3) fun v28 =>
  if v28 = (0 : Int32) then
    f_X7_apply_22 F K R a0 I x1 x2 x3 x4 (some a0) x1 x2
  else
    zbd (f_X7_isRegister F K I R x4) fun v31 =>
    if v31 = (0 : Int32) then
      f_X7_apply_22 F K R a0 I x1 x2 x3 x4 (some a0) x1 x2
    else
      f_X7_apply_23 F K R a0 I x1 x2 x3 x4 (some a0) x1 x2 (1 : Int32)
section
variable {p : Program} {l : Launch} {e : Env} {s : State} {m : MethodId} {args : Array Value} {below : List Frame} {meth : Method} {c : Code} {D : zD} {B n n0 n' fd ld : Nat} {K K0 K' : zK} {I I' : zI} {R R' : zR} {H : Heap} {locs : List Loc} {ls : Array Slot} {r : Int32}
set_option maxRecDepth 100000 in
set_option maxHeartbeats 4000000 in
theorem w_X7_apply_48 {F : Nat} {a0 : Nat}  (X : zX p s m c cX7_apply 6 RX7 D) (hr : meth.sig.returnType = some .int) (hlk : meth.locks = false) (hK0 : (K a0).1 = 17)  {x1 : Int32} {x2 : Int32} {x3 : Int32} {x4 : Int32} {s0 : Int32} (hf : f_X7_apply_48 F K R a0  I x1 x2 x3 x4 s0 = some (r, I')) (hW : zS (zOwn B K (B + n)) D B n K I R s.heap H locs) (hl : lv_has ls 6 [(0, .ref (B + a0)), (1, .int x1), (2, .int x2), (3, .int x3), (4, .int x4)]) : W p l e ({ frames := 6, cells := 0, slots := 0, locals := 167 } : Room) s m args below meth c H locs 0 0 (MQ below (zQi D (zOwn B K (B + n)) r B n K I' R) args s 0 0 (zOwn B K (B + n))) (F0 m 48 ls [.int s0]) := by
  unfold f_X7_apply_48 at hf
  refine lv_istore (lv' := [(5, .int s0), (0, .ref (B + a0)), (1, .int x1), (2, .int x2), (3, .int x3), (4, .int x4)]) X.1 X.2.1 dX7_apply_48 hl (by decide) rfl (fun ls hk => ?_)
  replace hl := hk
  refine lv_iload X.1 X.2.1 dX7_apply_50 (lv_at hl 0 rfl) ?_
  refine lv_if_eq (tgt := 58) X.1 X.2.1 dX7_apply_52 (by decide) (fun c1 => ?_) (fun c1 => ?_)
  · replace hf := zif_pos c1 hf
    refine lv_aload_n X.1 X.2.1 dX7_apply_58 rfl (lv_at hl 1 rfl) ?_
    refine lv_bipush (v := 97) X.1 X.2.1 dX7_apply_59 (by decide) ?_
    refine lv_iload_n X.1 X.2.1 dX7_apply_61 rfl (lv_at hl 2 rfl) ?_
    refine lv_imul X.1 X.2.1 dX7_apply_62 ?_
    refine lv_bipush (v := 97) X.1 X.2.1 dX7_apply_63 (by decide) ?_
    refine lv_iload_n X.1 X.2.1 dX7_apply_65 rfl (lv_at hl 4 rfl) ?_
    refine lv_imul X.1 X.2.1 dX7_apply_66 ?_
    obtain ⟨v2, I3, h4, hg⟩ := zh_bd2 hf
    replace hf := hg
    refine ze_aftI0 (ze_runV (As := [.int ((97 : Int32) * x1), .int ((97 : Int32) * x3)]) (rest := []) X 7 274 (c_X7_matches l D B n hK0 h4) vX7_matches kml_X7_274 hW hK0 rfl rfl ⟨by decide, by decide⟩ rfl hl.1 rfl (Nat.le_of_ble_eq_true rfl) ⟨Nat.le_refl _, Nat.le_refl _⟩ dX7_apply_67) hW (fun H locs hV => ?_)
    replace hW := hV
    refine lv_if_eq (tgt := 92) X.1 X.2.1 dX7_apply_70 (by decide) (fun c5 => ?_) (fun c5 => ?_)
    · replace hf := zif_pos c5 hf
      refine lv_bipush (v := -2) X.1 X.2.1 dX7_apply_92 (by decide) ?_
      obtain ⟨rfl, rfl⟩ := zi2 hf
      exact ze_retI X hr hlk hW (Nat.le_refl _) (Nat.le_refl _) dX7_apply_94
    · replace hf := zif_neg c5 hf
      refine lv_aload_n X.1 X.2.1 dX7_apply_73 rfl (lv_at hl 1 rfl) ?_
      refine lv_bipush (v := 97) X.1 X.2.1 dX7_apply_74 (by decide) ?_
      refine lv_iload_n X.1 X.2.1 dX7_apply_76 rfl (lv_at hl 2 rfl) ?_
      refine lv_imul X.1 X.2.1 dX7_apply_77 ?_
      refine lv_bipush (v := 97) X.1 X.2.1 dX7_apply_78 (by decide) ?_
      refine lv_iload_n X.1 X.2.1 dX7_apply_80 rfl (lv_at hl 3 rfl) ?_
      refine lv_imul X.1 X.2.1 dX7_apply_81 ?_
      refine lv_bipush (v := 97) X.1 X.2.1 dX7_apply_82 (by decide) ?_
      refine lv_iload_n X.1 X.2.1 dX7_apply_84 rfl (lv_at hl 4 rfl) ?_
      refine lv_imul X.1 X.2.1 dX7_apply_85 ?_
      obtain ⟨v6, I7, h8, hg⟩ := zh_bd2 hf
      replace hf := hg
      refine ze_aftI0 (ze_runV (As := [.int ((97 : Int32) * x1), .int ((97 : Int32) * x2), .int ((97 : Int32) * x3)]) (rest := []) X 7 296 (c_X7_isApplicable l D B n hK0 h8) vX7_isApplicable kml_X7_296 hW hK0 rfl rfl ⟨by decide, by decide⟩ rfl hl.1 rfl (Nat.le_of_ble_eq_true rfl) ⟨Nat.le_refl _, Nat.le_refl _⟩ dX7_apply_86) hW (fun H locs hV => ?_)
      replace hW := hV
      refine lv_if_ne (tgt := 95) X.1 X.2.1 dX7_apply_89 (by decide) (fun c9 => ?_) (fun c9 => ?_)
      · replace hf := zif_neg c9 hf
        refine lv_aload_n X.1 X.2.1 dX7_apply_95 rfl (lv_at hl 1 rfl) ?_
        refine lv_bipush (v := 97) X.1 X.2.1 dX7_apply_96 (by decide) ?_
        refine lv_iload_n X.1 X.2.1 dX7_apply_98 rfl (lv_at hl 3 rfl) ?_
        refine lv_imul X.1 X.2.1 dX7_apply_99 ?_
        refine lv_bipush (v := 97) X.1 X.2.1 dX7_apply_100 (by decide) ?_
        refine lv_iload_n X.1 X.2.1 dX7_apply_102 rfl (lv_at hl 4 rfl) ?_
        refine lv_imul X.1 X.2.1 dX7_apply_103 ?_
        refine lv_sipush (v := 5654) X.1 X.2.1 dX7_apply_104 (by decide) ?_
        obtain ⟨v10, I11, h12, hg⟩ := zh_bd2 hf
        replace hf := hg
        refine ze_aftI0 (ze_runV (As := [.int ((97 : Int32) * x2), .int ((97 : Int32) * x3), .int (5654 : Int32)]) (rest := []) X 7 299 (c_X7_builds l D B n hK0 h12) vX7_builds kml_X7_299 hW hK0 rfl rfl ⟨by decide, by decide⟩ rfl hl.1 rfl (Nat.le_of_ble_eq_true rfl) ⟨Nat.le_refl _, Nat.le_refl _⟩ dX7_apply_107) hW (fun H locs hV => ?_)
        replace hW := hV
        refine lv_if_ne (tgt := 116) X.1 X.2.1 dX7_apply_110 (by decide) (fun c13 => ?_) (fun c13 => ?_)
        · replace hf := zif_neg c13 hf
          refine lv_aload_n X.1 X.2.1 dX7_apply_116 rfl (lv_at hl 1 rfl) ?_
          obtain ⟨I14, h15, hg⟩ := zh_bd hf
          replace hf := hg
          refine ze_aftV0 (ze_runV (As := []) (rest := []) X 7 198 (c_X7_records l D B n hK0 h15) vX7_records kml_X7_198 hW hK0 rfl rfl ⟨by decide, by decide⟩ rfl hl.1 rfl (Nat.le_of_ble_eq_true rfl) ⟨Nat.le_refl _, Nat.le_refl _⟩ dX7_apply_117) hW (fun H locs hV => ?_)
          replace hW := hV
          refine lv_aload_n X.1 X.2.1 dX7_apply_120 rfl (lv_at hl 1 rfl) ?_
          refine lv_sipush (v := 5654) X.1 X.2.1 dX7_apply_121 (by decide) ?_
          refine lv_iload X.1 X.2.1 dX7_apply_124 (lv_at hl 5 rfl) ?_
          obtain ⟨v16, I17, h18, hg⟩ := zh_bd2 hf
          replace hf := hg
          refine ze_aftI0 (ze_runV (As := [.int (5654 : Int32), .int x4]) (rest := []) X 7 201 (c_X7_puts l D B n hK0 h18) vX7_puts kml_X7_201 hW hK0 rfl rfl ⟨by decide, by decide⟩ rfl hl.1 rfl (Nat.le_of_ble_eq_true rfl) ⟨Nat.le_refl _, Nat.le_refl _⟩ dX7_apply_126) hW (fun H locs hV => ?_)
          replace hW := hV
          obtain ⟨rfl, rfl⟩ := zi2 hf
          exact ze_retI X hr hlk hW (Nat.le_refl _) (Nat.le_refl _) dX7_apply_129
        · replace hf := zif_pos c13 hf
          refine lv_bipush (v := -3) X.1 X.2.1 dX7_apply_113 (by decide) ?_
          obtain ⟨rfl, rfl⟩ := zi2 hf
          exact ze_retI X hr hlk hW (Nat.le_refl _) (Nat.le_refl _) dX7_apply_115
      · replace hf := zif_pos c9 hf
        refine lv_bipush (v := -2) X.1 X.2.1 dX7_apply_92 (by decide) ?_
        obtain ⟨rfl, rfl⟩ := zi2 hf
        exact ze_retI X hr hlk hW (Nat.le_refl _) (Nat.le_refl _) dX7_apply_94
  · replace hf := zif_neg c1 hf
    refine lv_iload X.1 X.2.1 dX7_apply_55 (lv_at hl 0 rfl) ?_
    obtain ⟨rfl, rfl⟩ := zi2 hf
    exact ze_retI X hr hlk hW (Nat.le_refl _) (Nat.le_refl _) dX7_apply_57
set_option maxRecDepth 100000 in
set_option maxHeartbeats 4000000 in
theorem w_X7_apply_46 {F : Nat} {a0 : Nat}  (X : zX p s m c cX7_apply 6 RX7 D) (hr : meth.sig.returnType = some .int) (hlk : meth.locks = false) (hK0 : (K a0).1 = 17)  {x1 : Int32} {x2 : Int32} {x3 : Int32} {x4 : Int32} {x5 : Int32} (hf : f_X7_apply_46 F K R a0  I x1 x2 x3 x4 x5 = some (r, I')) (hW : zS (zOwn B K (B + n)) D B n K I R s.heap H locs) (hl : lv_has ls 6 [(0, .ref (B + a0)), (1, .int x1), (2, .int x2), (3, .int x3), (4, .int x4), (5, .int x5)]) : W p l e ({ frames := 6, cells := 0, slots := 0, locals := 167 } : Room) s m args below meth c H locs 0 0 (MQ below (zQi D (zOwn B K (B + n)) r B n K I' R) args s 0 0 (zOwn B K (B + n))) (F0 m 46 ls []) := by
  unfold f_X7_apply_46 at hf
  refine lv_iload X.1 X.2.1 dX7_apply_46 (lv_at hl 5 rfl) ?_
  exact w_X7_apply_48 X hr hlk hK0 hf hW (lv_sub hl [0, 1, 2, 3, 4] rfl)
set_option maxRecDepth 100000 in
set_option maxHeartbeats 4000000 in
theorem w_X7_apply_23 {F : Nat} {a0 : Nat}  (X : zX p s m c cX7_apply 6 RX7 D) (hr : meth.sig.returnType = some .int) (hlk : meth.locks = false) (hK0 : (K a0).1 = 17)  {x1 : Int32} {x2 : Int32} {x3 : Int32} {x4 : Int32} {s0 : Option Nat} {s1 : Int32} {s2 : Int32} {s3 : Int32} (hf : f_X7_apply_23 F K R a0  I x1 x2 x3 x4 s0 s1 s2 s3 = some (r, I')) (hW : zS (zOwn B K (B + n)) D B n K I R s.heap H locs) (hl : lv_has ls 6 [(0, .ref (B + a0)), (1, .int x1), (2, .int x2), (3, .int x3), (4, .int x4)]) : W p l e ({ frames := 6, cells := 0, slots := 0, locals := 167 } : Room) s m args below meth c H locs 0 0 (MQ below (zQi D (zOwn B K (B + n)) r B n K I' R) args s 0 0 (zOwn B K (B + n))) (F0 m 23 ls [.int s3, .int s2, .int s1, zrf B s0]) := by
  unfold f_X7_apply_23 at hf
  obtain ⟨a19, rfl, k21, hg⟩ := zh_dr hf
  replace hf := hg
  obtain ⟨v22, h23, hg⟩ := zh_bd hf
  replace hf := hg
  refine ze_aftI0 (ze_runV (As := [.int s1, .int s2, .int s3]) (rest := []) X 7 254 (c_X7_wrong l D B n k21 h23) vX7_wrong kml_X7_254 hW k21 rfl rfl ⟨by decide, by decide⟩ rfl hl.1 rfl (Nat.le_of_ble_eq_true rfl) ⟨Nat.le_refl _, Nat.le_refl _⟩ dX7_apply_23) hW (fun H locs hV => ?_)
  replace hW := hV
  refine lv_istore (lv' := [(5, .int v22), (0, .ref (B + a0)), (1, .int x1), (2, .int x2), (3, .int x3), (4, .int x4)]) X.1 X.2.1 dX7_apply_26 hl (by decide) rfl (fun ls hk => ?_)
  replace hl := hk
  refine lv_iload X.1 X.2.1 dX7_apply_28 (lv_at hl 0 rfl) ?_
  refine lv_if_ne (tgt := 46) X.1 X.2.1 dX7_apply_30 (by decide) (fun c24 => ?_) (fun c24 => ?_)
  · replace hf := zif_neg c24 hf
    exact w_X7_apply_46 X hr hlk hK0 hf hW (lv_sub hl [1, 2, 3, 4, 5, 0] rfl)
  · replace hf := zif_pos c24 hf
    refine lv_aload_n X.1 X.2.1 dX7_apply_33 rfl (lv_at hl 1 rfl) ?_
    refine lv_iload_n X.1 X.2.1 dX7_apply_34 rfl (lv_at hl 4 rfl) ?_
    obtain ⟨v25, h26, hg⟩ := zh_bd hf
    replace hf := hg
    refine ze_aftI0 (ze_runV (As := [.int x3]) (rest := []) X 7 204 (c_X7_isEmpty l D B n hK0 h26) vX7_isEmpty kml_X7_204 hW hK0 rfl rfl ⟨by decide, by decide⟩ rfl hl.1 rfl (Nat.le_of_ble_eq_true rfl) ⟨Nat.le_refl _, Nat.le_refl _⟩ dX7_apply_35) hW (fun H locs hV => ?_)
    replace hW := hV
    refine lv_if_eq (tgt := 46) X.1 X.2.1 dX7_apply_38 (by decide) (fun c27 => ?_) (fun c27 => ?_)
    · replace hf := zif_pos c27 hf
      exact w_X7_apply_46 X hr hlk hK0 hf hW (lv_sub hl [1, 2, 3, 4, 5, 0] rfl)
    · replace hf := zif_neg c27 hf
      refine lv_bipush (v := -2) X.1 X.2.1 dX7_apply_41 (by decide) ?_
      refine lv_goto (tgt := 48) X.1 X.2.1 dX7_apply_43 (by decide) ?_
      exact w_X7_apply_48 X hr hlk hK0 hf hW (lv_sub hl [1, 2, 3, 4, 5] rfl)
set_option maxRecDepth 100000 in
set_option maxHeartbeats 4000000 in
theorem w_X7_apply_22 {F : Nat} {a0 : Nat}  (X : zX p s m c cX7_apply 6 RX7 D) (hr : meth.sig.returnType = some .int) (hlk : meth.locks = false) (hK0 : (K a0).1 = 17)  {x1 : Int32} {x2 : Int32} {x3 : Int32} {x4 : Int32} {s0 : Option Nat} {s1 : Int32} {s2 : Int32} (hf : f_X7_apply_22 F K R a0  I x1 x2 x3 x4 s0 s1 s2 = some (r, I')) (hW : zS (zOwn B K (B + n)) D B n K I R s.heap H locs) (hl : lv_has ls 6 [(0, .ref (B + a0)), (1, .int x1), (2, .int x2), (3, .int x3), (4, .int x4)]) : W p l e ({ frames := 6, cells := 0, slots := 0, locals := 167 } : Room) s m args below meth c H locs 0 0 (MQ below (zQi D (zOwn B K (B + n)) r B n K I' R) args s 0 0 (zOwn B K (B + n))) (F0 m 22 ls [.int s2, .int s1, zrf B s0]) := by
  unfold f_X7_apply_22 at hf
  refine lv_iconst (v := 0) X.1 X.2.1 dX7_apply_22 (by decide) ?_
  exact w_X7_apply_23 X hr hlk hK0 hf hW hl
set_option maxRecDepth 100000 in
set_option maxHeartbeats 4000000 in
theorem c_X7_apply (l : Launch) (D : zD) (B n : Nat) {F : Nat} {K : zK} {I : zI} {R : zR} {a0 : Nat} {x1 : Int32} {x2 : Int32} {x3 : Int32} {x4 : Int32} {r : Int32} {I' : zI} (hK0 : (K a0).1 = 17) (hf : f_X7_apply F K I R a0 x1 x2 x3 x4 = some (r, I')) : zM l yX7_apply cX7_apply 6 (some .int) ({ frames := 6, cells := 0, slots := 0, locals := 167 } : Room) D B n K I R [.ref (B + a0), .int x1, .int x2, .int x3, .int x4] (zQi D (zOwn B K (B + n)) r B n K I' R) := by
  refine ze_entry (lv0 := [(0, .ref (B + a0)), (1, .int x1), (2, .int x2), (3, .int x3), (4, .int x4)]) (by decide) (by simp [lg_sl, zcat, zcat_i, zcat_r, zcat_l]) (by simp [lv_args, zcat, zcat_i, zcat_r, zcat_l]) (fun p e s m below meth c X hr hlk hin hW ls hl => ?_)
  unfold f_X7_apply at hf
  refine lv_aload_n X.1 X.2.1 dX7_apply_0 rfl (lv_at hl 0 rfl) ?_
  refine lv_iload_n X.1 X.2.1 dX7_apply_1 rfl (lv_at hl 1 rfl) ?_
  refine lv_iload_n X.1 X.2.1 dX7_apply_2 rfl (lv_at hl 2 rfl) ?_
  refine lv_iload_n X.1 X.2.1 dX7_apply_3 rfl (lv_at hl 3 rfl) ?_
  obtain ⟨v28, h29, hg⟩ := zh_bd hf
  replace hf := hg
  refine ze_aftI0 (ze_runS (As := [.int x3]) (rest := [.int x2, .int x1, .ref (B + a0)]) X 182 (c_X7_isRegister l D B n h29) vX7_isRegister kml_X7_182 hW ⟨by decide, by decide⟩ rfl hl.1 rfl (Nat.le_of_ble_eq_true rfl) ⟨Nat.le_refl _, Nat.le_refl _⟩ dX7_apply_4) hW (fun H locs hV => ?_)
  replace hW := hV
  refine lv_if_eq (tgt := 22) X.1 X.2.1 dX7_apply_7 (by decide) (fun c30 => ?_) (fun c30 => ?_)
  · replace hf := zif_pos c30 hf
    exact w_X7_apply_22 X hr hlk hK0 hf hW hl
  · replace hf := zif_neg c30 hf
    refine lv_iload X.1 X.2.1 dX7_apply_10 (lv_at hl 4 rfl) ?_
    obtain ⟨v31, h32, hg⟩ := zh_bd hf
    replace hf := hg
    refine ze_aftI0 (ze_runS (As := [.int x4]) (rest := [.int x2, .int x1, .ref (B + a0)]) X 182 (c_X7_isRegister l D B n h32) vX7_isRegister kml_X7_182 hW ⟨by decide, by decide⟩ rfl hl.1 rfl (Nat.le_of_ble_eq_true rfl) ⟨Nat.le_refl _, Nat.le_refl _⟩ dX7_apply_12) hW (fun H locs hV => ?_)
    replace hW := hV
    refine lv_if_eq (tgt := 22) X.1 X.2.1 dX7_apply_15 (by decide) (fun c33 => ?_) (fun c33 => ?_)
    · replace hf := zif_pos c33 hf
      exact w_X7_apply_22 X hr hlk hK0 hf hW hl
    · replace hf := zif_neg c33 hf
      refine lv_iconst (v := 1) X.1 X.2.1 dX7_apply_18 (by decide) ?_
      refine lv_goto (tgt := 23) X.1 X.2.1 dX7_apply_19 (by decide) ?_
      exact w_X7_apply_23 X hr hlk hK0 hf hW hl
end

/-! LeastPatternsModel.sumOf(Z)I -/
def f_X7_sumOf_40 (F : Nat) (K : zK) (I : zI) (R : zR) (a0 : Nat) (k4 : Int32 → Int32 → Int32 → Option (Int32)) (x1 : Int32) (x3 : Int32) (s0 : Int32) (s1 : Int32) : Option (Int32) :=
  zbd (some (s0 + s1)) fun v1 =>
  k4 x1 v1 (x3 + (1 : Int32))
def g_X7_sumOf_4 (F : Nat) (K : zK) (I : zI) (R : zR) (a0 : Nat)  (kself : Int32 → Int32 → Int32 → Option (Int32)) (x1 : Int32) (x2 : Int32) (x3 : Int32) : Option (Int32) :=
  if (8 : Int32) ≤ x3 then
    some x2
  else
    if x1 = (0 : Int32) then
      zbd (f_X7_isEmpty F K I R a0 x3) fun v4 =>
      if v4 = (0 : Int32) then
        f_X7_sumOf_40 F K I R a0 kself x1 x3 x2 (1 : Int32)
      else
        f_X7_sumOf_40 F K I R a0 kself x1 x3 x2 (0 : Int32)
    else
      zbd (some (R a0 0)) fun o7 =>
      zbd (zdr K o7 1) fun a8 =>
      zbd (zrd K I a8 ((97 : Int32) * x3)) fun v11 =>
      f_X7_sumOf_40 F K I R a0 kself x1 x3 x2 v11
def f_X7_sumOf_4 (F : Nat) (K : zK) (I : zI) (R : zR) (a0 : Nat)  : Nat → Int32 → Int32 → Int32 → Option (Int32)
  | 0, _, _, _ => none
  | t + 1, x1, x2, x3 => g_X7_sumOf_4 F K I R a0  (f_X7_sumOf_4 F K I R a0  t) x1 x2 x3
def f_X7_sumOf (F : Nat) (K : zK) (I : zI) (R : zR) (a0 : Nat) (x1 : Int32) : Option (Int32) :=
  f_X7_sumOf_4 F K I R a0 F x1 (0 : Int32) (0 : Int32)
section
variable {p : Program} {l : Launch} {e : Env} {s : State} {m : MethodId} {args : Array Value} {below : List Frame} {meth : Method} {c : Code} {D : zD} {B n n0 n' fd ld : Nat} {K K0 K' : zK} {I I' : zI} {R R' : zR} {H : Heap} {locs : List Loc} {ls : Array Slot} {r : Int32}
set_option maxRecDepth 100000 in
set_option maxHeartbeats 4000000 in
theorem w_X7_sumOf_40 {F : Nat} {a0 : Nat} {k4 : Int32 → Int32 → Int32 → Option (Int32)} (X : zX p s m c cX7_sumOf 4 RX7 D) (hr : meth.sig.returnType = some .int) (hlk : meth.locks = false) (hK0 : (K a0).1 = 17) (hk4 : ∀ (x1 : Int32) (x2 : Int32) (x3 : Int32) (H : Heap) (locs : List Loc) (ls : Array Slot), k4 x1 x2 x3 = some r → zS (zOwn B K (B + n)) D B n K I R s.heap H locs → lv_has ls 4 [(0, .ref (B + a0)), (1, .int x1), (2, .int x2), (3, .int x3)] → W p l e ({ frames := 2, cells := 0, slots := 0, locals := 61 } : Room) s m args below meth c H locs 0 0 (MQ below (zQi D (zOwn B K (B + n)) r B n K I R) args s 0 0 (zOwn B K (B + n))) (F0 m 4 ls [])) {x1 : Int32} {x3 : Int32} {s0 : Int32} {s1 : Int32} (hf : f_X7_sumOf_40 F K I R a0 k4 x1 x3 s0 s1 = some r) (hW : zS (zOwn B K (B + n)) D B n K I R s.heap H locs) (hl : lv_has ls 4 [(0, .ref (B + a0)), (1, .int x1), (3, .int x3)]) : W p l e ({ frames := 2, cells := 0, slots := 0, locals := 61 } : Room) s m args below meth c H locs 0 0 (MQ below (zQi D (zOwn B K (B + n)) r B n K I R) args s 0 0 (zOwn B K (B + n))) (F0 m 40 ls [.int s1, .int s0]) := by
  unfold f_X7_sumOf_40 at hf
  refine lv_iadd X.1 X.2.1 dX7_sumOf_40 ?_
  refine ze_nm hf (fun v1 hg => ?_)
  replace hf := hg
  refine lv_istore_n (i := 2) (lv' := [(2, .int v1), (0, .ref (B + a0)), (1, .int x1), (3, .int x3)]) X.1 X.2.1 dX7_sumOf_41 rfl hl (by decide) rfl (fun ls hk => ?_)
  replace hl := hk
  refine ze_iinc (lv' := [(3, .int (x3 + (1 : Int32))), (2, .int v1), (0, .ref (B + a0)), (1, .int x1)]) (d := 1) X.1 X.2.1 dX7_sumOf_42 hl (k := 3) rfl (by decide) (by decide) rfl (fun ls hk => ?_)
  replace hl := hk
  refine lv_goto (tgt := 4) X.1 X.2.1 dX7_sumOf_45 (by decide) ?_
  exact hk4 _ _ _ _ _ _ hf hW (lv_sub hl [2, 3, 1, 0] rfl)
set_option maxRecDepth 100000 in
set_option maxHeartbeats 4000000 in
theorem wg_X7_sumOf_4 {F : Nat} {a0 : Nat}  (X : zX p s m c cX7_sumOf 4 RX7 D) (hr : meth.sig.returnType = some .int) (hlk : meth.locks = false) (hK0 : (K a0).1 = 17)  {kself : Int32 → Int32 → Int32 → Option (Int32)} (hkself : ∀ (x1 : Int32) (x2 : Int32) (x3 : Int32) (H : Heap) (locs : List Loc) (ls : Array Slot), kself x1 x2 x3 = some r → zS (zOwn B K (B + n)) D B n K I R s.heap H locs → lv_has ls 4 [(0, .ref (B + a0)), (1, .int x1), (2, .int x2), (3, .int x3)] → W p l e ({ frames := 2, cells := 0, slots := 0, locals := 61 } : Room) s m args below meth c H locs 0 0 (MQ below (zQi D (zOwn B K (B + n)) r B n K I R) args s 0 0 (zOwn B K (B + n))) (F0 m 4 ls [])) {x1 : Int32} {x2 : Int32} {x3 : Int32} (hf : g_X7_sumOf_4 F K I R a0  kself x1 x2 x3 = some r) (hW : zS (zOwn B K (B + n)) D B n K I R s.heap H locs) (hl : lv_has ls 4 [(0, .ref (B + a0)), (1, .int x1), (2, .int x2), (3, .int x3)]) : W p l e ({ frames := 2, cells := 0, slots := 0, locals := 61 } : Room) s m args below meth c H locs 0 0 (MQ below (zQi D (zOwn B K (B + n)) r B n K I R) args s 0 0 (zOwn B K (B + n))) (F0 m 4 ls []) := by
  unfold g_X7_sumOf_4 at hf
  refine lv_iload_n X.1 X.2.1 dX7_sumOf_4 rfl (lv_at hl 3 rfl) ?_
  refine lv_bipush (v := 8) X.1 X.2.1 dX7_sumOf_5 (by decide) ?_
  refine lv_icmp_ge (tgt := 48) X.1 X.2.1 dX7_sumOf_7 (by decide) (fun c2 => ?_) (fun c2 => ?_)
  · replace hf := zif_pos c2 hf
    refine lv_iload_n X.1 X.2.1 dX7_sumOf_48 rfl (lv_at hl 2 rfl) ?_
    obtain rfl := zi1 hf
    exact ze_retI X hr hlk hW (Nat.le_refl _) (Nat.le_refl _) dX7_sumOf_49
  · replace hf := zif_neg c2 hf
    refine lv_iload_n X.1 X.2.1 dX7_sumOf_10 rfl (lv_at hl 2 rfl) ?_
    refine lv_iload_n X.1 X.2.1 dX7_sumOf_11 rfl (lv_at hl 1 rfl) ?_
    refine lv_if_eq (tgt := 27) X.1 X.2.1 dX7_sumOf_12 (by decide) (fun c3 => ?_) (fun c3 => ?_)
    · replace hf := zif_pos c3 hf
      refine lv_aload_n X.1 X.2.1 dX7_sumOf_27 rfl (lv_at hl 0 rfl) ?_
      refine lv_iload_n X.1 X.2.1 dX7_sumOf_28 rfl (lv_at hl 3 rfl) ?_
      obtain ⟨v4, h5, hg⟩ := zh_bd hf
      replace hf := hg
      refine ze_aftI0 (ze_runV (As := [.int x3]) (rest := [.int x2]) X 7 204 (c_X7_isEmpty l D B n hK0 h5) vX7_isEmpty kml_X7_204 hW hK0 rfl rfl ⟨by decide, by decide⟩ rfl hl.1 rfl (Nat.le_of_ble_eq_true rfl) ⟨Nat.le_refl _, Nat.le_refl _⟩ dX7_sumOf_29) hW (fun H locs hV => ?_)
      replace hW := hV
      refine lv_if_eq (tgt := 39) X.1 X.2.1 dX7_sumOf_32 (by decide) (fun c6 => ?_) (fun c6 => ?_)
      · replace hf := zif_pos c6 hf
        refine lv_iconst (v := 1) X.1 X.2.1 dX7_sumOf_39 (by decide) ?_
        exact w_X7_sumOf_40 X hr hlk hK0 hkself hf hW (lv_sub hl [0, 1, 3] rfl)
      · replace hf := zif_neg c6 hf
        refine lv_iconst (v := 0) X.1 X.2.1 dX7_sumOf_35 (by decide) ?_
        refine lv_goto (tgt := 40) X.1 X.2.1 dX7_sumOf_36 (by decide) ?_
        exact w_X7_sumOf_40 X hr hlk hK0 hkself hf hW (lv_sub hl [0, 1, 3] rfl)
    · replace hf := zif_neg c3 hf
      refine lv_aload_n X.1 X.2.1 dX7_sumOf_15 rfl (lv_at hl 0 rfl) ?_
      refine ze_gtR X 7 0 7 (RX7, TX7, 39) rfl hf hW hK0 rfl (by decide) kfl_X7_7 dX7_sumOf_16 (fun o7 hg => ?_)
      replace hf := hg
      refine lv_bipush (v := 97) X.1 X.2.1 dX7_sumOf_19 (by decide) ?_
      refine lv_iload_n X.1 X.2.1 dX7_sumOf_21 rfl (lv_at hl 3 rfl) ?_
      refine lv_imul X.1 X.2.1 dX7_sumOf_22 ?_
      obtain ⟨a8, rfl, k10, hg⟩ := zh_dr hf
      replace hf := hg
      refine ze_iald X hf hW k10 dX7_sumOf_23 (fun v11 hg => ?_)
      replace hf := hg
      refine lv_goto (tgt := 40) X.1 X.2.1 dX7_sumOf_24 (by decide) ?_
      exact w_X7_sumOf_40 X hr hlk hK0 hkself hf hW (lv_sub hl [0, 1, 3] rfl)
set_option maxRecDepth 100000 in
set_option maxHeartbeats 4000000 in
theorem w_X7_sumOf_4 {F : Nat} {a0 : Nat}  (X : zX p s m c cX7_sumOf 4 RX7 D) (hr : meth.sig.returnType = some .int) (hlk : meth.locks = false) (hK0 : (K a0).1 = 17)  {t : Nat} {x1 : Int32} {x2 : Int32} {x3 : Int32} (hf : f_X7_sumOf_4 F K I R a0  t x1 x2 x3 = some r) (hW : zS (zOwn B K (B + n)) D B n K I R s.heap H locs) (hl : lv_has ls 4 [(0, .ref (B + a0)), (1, .int x1), (2, .int x2), (3, .int x3)]) : W p l e ({ frames := 2, cells := 0, slots := 0, locals := 61 } : Room) s m args below meth c H locs 0 0 (MQ below (zQi D (zOwn B K (B + n)) r B n K I R) args s 0 0 (zOwn B K (B + n))) (F0 m 4 ls []) := by
  have key : ∀ t : Nat, ∀ (x1 : Int32) (x2 : Int32) (x3 : Int32) (H : Heap) (locs : List Loc) (ls : Array Slot), f_X7_sumOf_4 F K I R a0  t x1 x2 x3 = some r → zS (zOwn B K (B + n)) D B n K I R s.heap H locs → lv_has ls 4 [(0, .ref (B + a0)), (1, .int x1), (2, .int x2), (3, .int x3)] → W p l e ({ frames := 2, cells := 0, slots := 0, locals := 61 } : Room) s m args below meth c H locs 0 0 (MQ below (zQi D (zOwn B K (B + n)) r B n K I R) args s 0 0 (zOwn B K (B + n))) (F0 m 4 ls []) := by
    intro t
    induction t with
    | zero =>
      intro x1 x2 x3 H locs ls hf hW hl
      cases hf
    | succ t ih =>
      intro x1 x2 x3 H locs ls hf hW hl
      exact wg_X7_sumOf_4 X hr hlk hK0  ih hf hW hl
  exact key t _ _ _ _ _ _ hf hW hl
set_option maxRecDepth 100000 in
set_option maxHeartbeats 4000000 in
theorem c_X7_sumOf (l : Launch) (D : zD) (B n : Nat) {F : Nat} {K : zK} {I : zI} {R : zR} {a0 : Nat} {x1 : Int32} {r : Int32} (hK0 : (K a0).1 = 17) (hf : f_X7_sumOf F K I R a0 x1 = some r) : zM l yX7_sumOf cX7_sumOf 4 (some .int) ({ frames := 2, cells := 0, slots := 0, locals := 61 } : Room) D B n K I R [.ref (B + a0), .int x1] (zQi D (zOwn B K (B + n)) r B n K I R) := by
  refine ze_entry (lv0 := [(0, .ref (B + a0)), (1, .int x1)]) (by decide) (by simp [lg_sl, zcat, zcat_i, zcat_r, zcat_l]) (by simp [lv_args, zcat, zcat_i, zcat_r, zcat_l]) (fun p e s m below meth c X hr hlk hin hW ls hl => ?_)
  unfold f_X7_sumOf at hf
  refine lv_iconst (v := 0) X.1 X.2.1 dX7_sumOf_0 (by decide) ?_
  refine lv_istore_n (i := 2) (lv' := [(2, .int (0 : Int32)), (0, .ref (B + a0)), (1, .int x1)]) X.1 X.2.1 dX7_sumOf_1 rfl hl (by decide) rfl (fun ls hk => ?_)
  replace hl := hk
  refine lv_iconst (v := 0) X.1 X.2.1 dX7_sumOf_2 (by decide) ?_
  refine lv_istore_n (i := 3) (lv' := [(3, .int (0 : Int32)), (2, .int (0 : Int32)), (0, .ref (B + a0)), (1, .int x1)]) X.1 X.2.1 dX7_sumOf_3 rfl hl (by decide) rfl (fun ls hk => ?_)
  replace hl := hk
  exact w_X7_sumOf_4 X hr hlk hK0 hf hW (lv_sub hl [2, 3, 1, 0] rfl)
end

/-! LeastPatternsModel.told(I)I -/
def f_X7_told_48 (F : Nat) (K : zK) (I : zI) (R : zR) (a0 : Nat)  (x1 : Int32) : Option (Int32) :=
  zbd (some (R a0 0)) fun o1 =>
  zbd (zdr K o1 1) fun a2 =>
  zbd (zrd K I a2 ((776 : Int32) + x1)) fun v5 =>
  some v5
def f_X7_told (F : Nat) (K : zK) (I : zI) (R : zR) (a0 : Nat) (x1 : Int32) : Option (Int32) :=
  if x1 = 0 then
    f_X7_told_48 F K I R a0 x1
  else
  if x1 = 1 then
    f_X7_told_48 F K I R a0 x1
  else
  if x1 = 2 then
    f_X7_told_48 F K I R a0 x1
  else
  if x1 = 3 then
    f_X7_told_48 F K I R a0 x1
  else
  if x1 = 4 then
    zbd (f_X7_sumOf F K I R a0 (0 : Int32)) fun v10 =>
    some v10
  else
  if x1 = 5 then
    zbd (f_X7_sumOf F K I R a0 (1 : Int32)) fun v13 =>
    some v13
  else
  if x1 = 6 then
    some (I a0 3)
  else
  if x1 = 7 then
    some (I a0 1)
  else
    some (-1 : Int32)
section
variable {p : Program} {l : Launch} {e : Env} {s : State} {m : MethodId} {args : Array Value} {below : List Frame} {meth : Method} {c : Code} {D : zD} {B n n0 n' fd ld : Nat} {K K0 K' : zK} {I I' : zI} {R R' : zR} {H : Heap} {locs : List Loc} {ls : Array Slot} {r : Int32}
set_option maxRecDepth 100000 in
set_option maxHeartbeats 4000000 in
theorem w_X7_told_48 {F : Nat} {a0 : Nat}  (X : zX p s m c cX7_told 2 RX7 D) (hr : meth.sig.returnType = some .int) (hlk : meth.locks = false) (hK0 : (K a0).1 = 17)  {x1 : Int32} (hf : f_X7_told_48 F K I R a0  x1 = some r) (hW : zS (zOwn B K (B + n)) D B n K I R s.heap H locs) (hl : lv_has ls 2 [(0, .ref (B + a0)), (1, .int x1)]) : W p l e ({ frames := 3, cells := 0, slots := 0, locals := 84 } : Room) s m args below meth c H locs 0 0 (MQ below (zQi D (zOwn B K (B + n)) r B n K I R) args s 0 0 (zOwn B K (B + n))) (F0 m 48 ls []) := by
  unfold f_X7_told_48 at hf
  refine lv_aload_n X.1 X.2.1 dX7_told_48 rfl (lv_at hl 0 rfl) ?_
  refine ze_gtR X 7 0 7 (RX7, TX7, 39) rfl hf hW hK0 rfl (by decide) kfl_X7_7 dX7_told_49 (fun o1 hg => ?_)
  replace hf := hg
  refine lv_sipush (v := 776) X.1 X.2.1 dX7_told_52 (by decide) ?_
  refine lv_iload_n X.1 X.2.1 dX7_told_55 rfl (lv_at hl 1 rfl) ?_
  refine lv_iadd X.1 X.2.1 dX7_told_56 ?_
  obtain ⟨a2, rfl, k4, hg⟩ := zh_dr hf
  replace hf := hg
  refine ze_iald X hf hW k4 dX7_told_57 (fun v5 hg => ?_)
  replace hf := hg
  obtain rfl := zi1 hf
  exact ze_retI X hr hlk hW (Nat.le_refl _) (Nat.le_refl _) dX7_told_58
set_option maxRecDepth 100000 in
set_option maxHeartbeats 4000000 in
theorem c_X7_told (l : Launch) (D : zD) (B n : Nat) {F : Nat} {K : zK} {I : zI} {R : zR} {a0 : Nat} {x1 : Int32} {r : Int32} (hK0 : (K a0).1 = 17) (hf : f_X7_told F K I R a0 x1 = some r) : zM l yX7_told cX7_told 2 (some .int) ({ frames := 3, cells := 0, slots := 0, locals := 84 } : Room) D B n K I R [.ref (B + a0), .int x1] (zQi D (zOwn B K (B + n)) r B n K I R) := by
  refine ze_entry (lv0 := [(0, .ref (B + a0)), (1, .int x1)]) (by decide) (by simp [lg_sl, zcat, zcat_i, zcat_r, zcat_l]) (by simp [lv_args, zcat, zcat_i, zcat_r, zcat_l]) (fun p e s m below meth c X hr hlk hin hW ls hl => ?_)
  unfold f_X7_told at hf
  refine lv_iload_n X.1 X.2.1 dX7_told_0 rfl (lv_at hl 1 rfl) ?_
  by_cases c6 : x1 = 0
  · replace hf := zif_pos c6 hf
    refine lv_tableIn (tgt := 48) X.1 X.2.1 dX7_told_1 (by rw [c6]; decide) (by rw [c6]; decide) (by rw [c6]; rfl) (by decide) ?_
    exact w_X7_told_48 X hr hlk hK0 hf hW hl
  replace hf := zif_neg c6 hf
  by_cases c7 : x1 = 1
  · replace hf := zif_pos c7 hf
    refine lv_tableIn (tgt := 48) X.1 X.2.1 dX7_told_1 (by rw [c7]; decide) (by rw [c7]; decide) (by rw [c7]; rfl) (by decide) ?_
    exact w_X7_told_48 X hr hlk hK0 hf hW hl
  replace hf := zif_neg c7 hf
  by_cases c8 : x1 = 2
  · replace hf := zif_pos c8 hf
    refine lv_tableIn (tgt := 48) X.1 X.2.1 dX7_told_1 (by rw [c8]; decide) (by rw [c8]; decide) (by rw [c8]; rfl) (by decide) ?_
    exact w_X7_told_48 X hr hlk hK0 hf hW hl
  replace hf := zif_neg c8 hf
  by_cases c9 : x1 = 3
  · replace hf := zif_pos c9 hf
    refine lv_tableIn (tgt := 48) X.1 X.2.1 dX7_told_1 (by rw [c9]; decide) (by rw [c9]; decide) (by rw [c9]; rfl) (by decide) ?_
    exact w_X7_told_48 X hr hlk hK0 hf hW hl
  replace hf := zif_neg c9 hf
  by_cases c12 : x1 = 4
  · replace hf := zif_pos c12 hf
    refine lv_tableIn (tgt := 59) X.1 X.2.1 dX7_told_1 (by rw [c12]; decide) (by rw [c12]; decide) (by rw [c12]; rfl) (by decide) ?_
    refine lv_aload_n X.1 X.2.1 dX7_told_59 rfl (lv_at hl 0 rfl) ?_
    refine lv_iconst (v := 0) X.1 X.2.1 dX7_told_60 (by decide) ?_
    obtain ⟨v10, h11, hg⟩ := zh_bd hf
    replace hf := hg
    refine ze_aftI0 (ze_runV (As := [.int (0 : Int32)]) (rest := []) X 7 302 (c_X7_sumOf l D B n hK0 h11) vX7_sumOf kml_X7_302 hW hK0 rfl rfl ⟨by decide, by decide⟩ rfl hl.1 rfl (Nat.le_of_ble_eq_true rfl) ⟨Nat.le_refl _, Nat.le_refl _⟩ dX7_told_61) hW (fun H locs hV => ?_)
    replace hW := hV
    obtain rfl := zi1 hf
    exact ze_retI X hr hlk hW (Nat.le_refl _) (Nat.le_refl _) dX7_told_64
  replace hf := zif_neg c12 hf
  by_cases c15 : x1 = 5
  · replace hf := zif_pos c15 hf
    refine lv_tableIn (tgt := 65) X.1 X.2.1 dX7_told_1 (by rw [c15]; decide) (by rw [c15]; decide) (by rw [c15]; rfl) (by decide) ?_
    refine lv_aload_n X.1 X.2.1 dX7_told_65 rfl (lv_at hl 0 rfl) ?_
    refine lv_iconst (v := 1) X.1 X.2.1 dX7_told_66 (by decide) ?_
    obtain ⟨v13, h14, hg⟩ := zh_bd hf
    replace hf := hg
    refine ze_aftI0 (ze_runV (As := [.int (1 : Int32)]) (rest := []) X 7 302 (c_X7_sumOf l D B n hK0 h14) vX7_sumOf kml_X7_302 hW hK0 rfl rfl ⟨by decide, by decide⟩ rfl hl.1 rfl (Nat.le_of_ble_eq_true rfl) ⟨Nat.le_refl _, Nat.le_refl _⟩ dX7_told_67) hW (fun H locs hV => ?_)
    replace hW := hV
    obtain rfl := zi1 hf
    exact ze_retI X hr hlk hW (Nat.le_refl _) (Nat.le_refl _) dX7_told_70
  replace hf := zif_neg c15 hf
  by_cases c16 : x1 = 6
  · replace hf := zif_pos c16 hf
    refine lv_tableIn (tgt := 71) X.1 X.2.1 dX7_told_1 (by rw [c16]; decide) (by rw [c16]; decide) (by rw [c16]; rfl) (by decide) ?_
    refine lv_aload_n X.1 X.2.1 dX7_told_71 rfl (lv_at hl 0 rfl) ?_
    refine ze_getI X 7 3 126 (RX7, TX7, 39) rfl hW hK0 rfl (by decide) kfl_X7_126 dX7_told_72 ?_
    obtain rfl := zi1 hf
    exact ze_retI X hr hlk hW (Nat.le_refl _) (Nat.le_refl _) dX7_told_75
  replace hf := zif_neg c16 hf
  by_cases c17 : x1 = 7
  · replace hf := zif_pos c17 hf
    refine lv_tableIn (tgt := 76) X.1 X.2.1 dX7_told_1 (by rw [c17]; decide) (by rw [c17]; decide) (by rw [c17]; rfl) (by decide) ?_
    refine lv_aload_n X.1 X.2.1 dX7_told_76 rfl (lv_at hl 0 rfl) ?_
    refine ze_getI X 7 1 108 (RX7, TX7, 39) rfl hW hK0 rfl (by decide) kfl_X7_108 dX7_told_77 ?_
    obtain rfl := zi1 hf
    exact ze_retI X hr hlk hW (Nat.le_refl _) (Nat.le_refl _) dX7_told_80
  replace hf := zif_neg c17 hf
  refine lv_tableOut (tgt := 81) X.1 X.2.1 dX7_told_1 ?_ (by decide) ?_
  · have hne : ∀ k : Int32, ¬ x1 = k → x1.toInt ≠ k.toInt := fun k h q => h (Int32.toInt_inj.mp q)
    have qc6 := hne 0 c6
    have qc7 := hne 1 c7
    have qc8 := hne 2 c8
    have qc9 := hne 3 c9
    have qc12 := hne 4 c12
    have qc15 := hne 5 c15
    have qc16 := hne 6 c16
    have qc17 := hne 7 c17
    simp at qc6 qc7 qc8 qc9 qc12 qc15 qc16 qc17
    omega
  · refine lv_iconst (v := -1) X.1 X.2.1 dX7_told_81 (by decide) ?_
    obtain rfl := zi1 hf
    exact ze_retI X hr hlk hW (Nat.le_refl _) (Nat.le_refl _) dX7_told_82
end

/-! LeastPatternsModel.undo()I -/
def g_X7_undo_12 (F : Nat) (K : zK) (R : zR) (a0 : Nat)  (kself : zI → Int32 → Option (Int32 × zI)) (I : zI) (x1 : Int32) : Option (Int32 × zI) :=
  if (780 : Int32) ≤ x1 then
    zbd (some (zup I a0 1 ((I a0 1) - (1 : Int32)))) fun I2 =>
    some (I2 a0 1, I2)
  else
    zbd (some (R a0 0)) fun o3 =>
    zbd (some (R a0 0)) fun o4 =>
    zbd (zdr K o4 1) fun a5 =>
    zbd (zrd K I a5 (((780 : Int32) * (I a0 1)) + x1)) fun v8 =>
    zbd (zdr K o3 1) fun a9 =>
    zbd (zwr K I a9 x1 v8) fun I12 =>
    kself I12 (x1 + (1 : Int32))
def f_X7_undo_12 (F : Nat) (K : zK) (R : zR) (a0 : Nat)  : Nat → zI → Int32 → Option (Int32 × zI)
  | 0, _, _ => none
  | t + 1, I, x1 => g_X7_undo_12 F K R a0  (f_X7_undo_12 F K R a0  t) I x1
def f_X7_undo (F : Nat) (K : zK) (I : zI) (R : zR) (a0 : Nat)  : Option (Int32 × zI) :=
  if (I a0 1) = (0 : Int32) then
    some ((-2 : Int32), I)
  else
    f_X7_undo_12 F K R a0 F I (0 : Int32)
section
variable {p : Program} {l : Launch} {e : Env} {s : State} {m : MethodId} {args : Array Value} {below : List Frame} {meth : Method} {c : Code} {D : zD} {B n n0 n' fd ld : Nat} {K K0 K' : zK} {I I' : zI} {R R' : zR} {H : Heap} {locs : List Loc} {ls : Array Slot} {r : Int32}
set_option maxRecDepth 100000 in
set_option maxHeartbeats 4000000 in
theorem wg_X7_undo_12 {F : Nat} {a0 : Nat}  (X : zX p s m c cX7_undo 2 RX7 D) (hr : meth.sig.returnType = some .int) (hlk : meth.locks = false) (hK0 : (K a0).1 = 17)  {kself : zI → Int32 → Option (Int32 × zI)} (hkself : ∀ (I : zI) (x1 : Int32) (H : Heap) (locs : List Loc) (ls : Array Slot), kself I x1 = some (r, I') → zS (zOwn B K (B + n)) D B n K I R s.heap H locs → lv_has ls 2 [(0, .ref (B + a0)), (1, .int x1)] → W p l e ({ frames := 1, cells := 0, slots := 0, locals := 40 } : Room) s m args below meth c H locs 0 0 (MQ below (zQi D (zOwn B K (B + n)) r B n K I' R) args s 0 0 (zOwn B K (B + n))) (F0 m 12 ls [])) {x1 : Int32} (hf : g_X7_undo_12 F K R a0  kself I x1 = some (r, I')) (hW : zS (zOwn B K (B + n)) D B n K I R s.heap H locs) (hl : lv_has ls 2 [(0, .ref (B + a0)), (1, .int x1)]) : W p l e ({ frames := 1, cells := 0, slots := 0, locals := 40 } : Room) s m args below meth c H locs 0 0 (MQ below (zQi D (zOwn B K (B + n)) r B n K I' R) args s 0 0 (zOwn B K (B + n))) (F0 m 12 ls []) := by
  unfold g_X7_undo_12 at hf
  refine lv_iload_n X.1 X.2.1 dX7_undo_12 rfl (lv_at hl 1 rfl) ?_
  refine lv_sipush (v := 780) X.1 X.2.1 dX7_undo_13 (by decide) ?_
  refine lv_icmp_ge (tgt := 46) X.1 X.2.1 dX7_undo_16 (by decide) (fun c1 => ?_) (fun c1 => ?_)
  · replace hf := zif_pos c1 hf
    refine lv_aload_n X.1 X.2.1 dX7_undo_46 rfl (lv_at hl 0 rfl) ?_
    refine lv_dup X.1 X.2.1 dX7_undo_47 rfl ?_
    refine ze_getI X 7 1 108 (RX7, TX7, 39) rfl hW hK0 rfl (by decide) kfl_X7_108 dX7_undo_48 ?_
    refine lv_iconst (v := 1) X.1 X.2.1 dX7_undo_51 (by decide) ?_
    refine lv_isub X.1 X.2.1 dX7_undo_52 ?_
    refine ze_putI X 7 1 108 (RX7, TX7, 39) rfl hf hW hK0 rfl (by decide) kfl_X7_108 rfl (by decide +kernel) dX7_undo_53 (fun I2 H locs hg hV => ?_)
    replace hf := hg
    replace hW := hV
    refine lv_aload_n X.1 X.2.1 dX7_undo_56 rfl (lv_at hl 0 rfl) ?_
    refine ze_getI X 7 1 108 (RX7, TX7, 39) rfl hW hK0 rfl (by decide) kfl_X7_108 dX7_undo_57 ?_
    obtain ⟨rfl, rfl⟩ := zi2 hf
    exact ze_retI X hr hlk hW (Nat.le_refl _) (Nat.le_refl _) dX7_undo_60
  · replace hf := zif_neg c1 hf
    refine lv_aload_n X.1 X.2.1 dX7_undo_19 rfl (lv_at hl 0 rfl) ?_
    refine ze_gtR X 7 0 7 (RX7, TX7, 39) rfl hf hW hK0 rfl (by decide) kfl_X7_7 dX7_undo_20 (fun o3 hg => ?_)
    replace hf := hg
    refine lv_iload_n X.1 X.2.1 dX7_undo_23 rfl (lv_at hl 1 rfl) ?_
    refine lv_aload_n X.1 X.2.1 dX7_undo_24 rfl (lv_at hl 0 rfl) ?_
    refine ze_gtR X 7 0 7 (RX7, TX7, 39) rfl hf hW hK0 rfl (by decide) kfl_X7_7 dX7_undo_25 (fun o4 hg => ?_)
    replace hf := hg
    refine lv_sipush (v := 780) X.1 X.2.1 dX7_undo_28 (by decide) ?_
    refine lv_aload_n X.1 X.2.1 dX7_undo_31 rfl (lv_at hl 0 rfl) ?_
    refine ze_getI X 7 1 108 (RX7, TX7, 39) rfl hW hK0 rfl (by decide) kfl_X7_108 dX7_undo_32 ?_
    refine lv_imul X.1 X.2.1 dX7_undo_35 ?_
    refine lv_iload_n X.1 X.2.1 dX7_undo_36 rfl (lv_at hl 1 rfl) ?_
    refine lv_iadd X.1 X.2.1 dX7_undo_37 ?_
    obtain ⟨a5, rfl, k7, hg⟩ := zh_dr hf
    replace hf := hg
    refine ze_iald X hf hW k7 dX7_undo_38 (fun v8 hg => ?_)
    replace hf := hg
    obtain ⟨a9, rfl, k11, hg⟩ := zh_dr hf
    replace hf := hg
    refine ze_iast X hf hW k11 dX7_undo_39 (fun I12 H locs hg hV => ?_)
    replace hf := hg
    replace hW := hV
    refine ze_iinc (lv' := [(1, .int (x1 + (1 : Int32))), (0, .ref (B + a0))]) (d := 1) X.1 X.2.1 dX7_undo_40 hl (k := 1) rfl (by decide) (by decide) rfl (fun ls hk => ?_)
    replace hl := hk
    refine lv_goto (tgt := 12) X.1 X.2.1 dX7_undo_43 (by decide) ?_
    exact hkself _ _ _ _ _ hf hW (lv_sub hl [1, 0] rfl)
set_option maxRecDepth 100000 in
set_option maxHeartbeats 4000000 in
theorem w_X7_undo_12 {F : Nat} {a0 : Nat}  (X : zX p s m c cX7_undo 2 RX7 D) (hr : meth.sig.returnType = some .int) (hlk : meth.locks = false) (hK0 : (K a0).1 = 17)  {t : Nat} {x1 : Int32} (hf : f_X7_undo_12 F K R a0  t I x1 = some (r, I')) (hW : zS (zOwn B K (B + n)) D B n K I R s.heap H locs) (hl : lv_has ls 2 [(0, .ref (B + a0)), (1, .int x1)]) : W p l e ({ frames := 1, cells := 0, slots := 0, locals := 40 } : Room) s m args below meth c H locs 0 0 (MQ below (zQi D (zOwn B K (B + n)) r B n K I' R) args s 0 0 (zOwn B K (B + n))) (F0 m 12 ls []) := by
  have key : ∀ t : Nat, ∀ (I : zI) (x1 : Int32) (H : Heap) (locs : List Loc) (ls : Array Slot), f_X7_undo_12 F K R a0  t I x1 = some (r, I') → zS (zOwn B K (B + n)) D B n K I R s.heap H locs → lv_has ls 2 [(0, .ref (B + a0)), (1, .int x1)] → W p l e ({ frames := 1, cells := 0, slots := 0, locals := 40 } : Room) s m args below meth c H locs 0 0 (MQ below (zQi D (zOwn B K (B + n)) r B n K I' R) args s 0 0 (zOwn B K (B + n))) (F0 m 12 ls []) := by
    intro t
    induction t with
    | zero =>
      intro I x1 H locs ls hf hW hl
      cases hf
    | succ t ih =>
      intro I x1 H locs ls hf hW hl
      exact wg_X7_undo_12 X hr hlk hK0  ih hf hW hl
  exact key t _ _ _ _ _ hf hW hl
set_option maxRecDepth 100000 in
set_option maxHeartbeats 4000000 in
theorem c_X7_undo (l : Launch) (D : zD) (B n : Nat) {F : Nat} {K : zK} {I : zI} {R : zR} {a0 : Nat}  {r : Int32} {I' : zI} (hK0 : (K a0).1 = 17) (hf : f_X7_undo F K I R a0  = some (r, I')) : zM l yX7_undo cX7_undo 2 (some .int) ({ frames := 1, cells := 0, slots := 0, locals := 40 } : Room) D B n K I R [.ref (B + a0)] (zQi D (zOwn B K (B + n)) r B n K I' R) := by
  refine ze_entry (lv0 := [(0, .ref (B + a0))]) (by decide) (by simp [lg_sl, zcat, zcat_i, zcat_r, zcat_l]) (by simp [lv_args, zcat, zcat_i, zcat_r, zcat_l]) (fun p e s m below meth c X hr hlk hin hW ls hl => ?_)
  unfold f_X7_undo at hf
  refine lv_aload_n X.1 X.2.1 dX7_undo_0 rfl (lv_at hl 0 rfl) ?_
  refine ze_getI X 7 1 108 (RX7, TX7, 39) rfl hW hK0 rfl (by decide) kfl_X7_108 dX7_undo_1 ?_
  refine lv_if_ne (tgt := 10) X.1 X.2.1 dX7_undo_4 (by decide) (fun c13 => ?_) (fun c13 => ?_)
  · replace hf := zif_neg c13 hf
    refine lv_iconst (v := 0) X.1 X.2.1 dX7_undo_10 (by decide) ?_
    refine lv_istore_n (i := 1) (lv' := [(1, .int (0 : Int32)), (0, .ref (B + a0))]) X.1 X.2.1 dX7_undo_11 rfl hl (by decide) rfl (fun ls hk => ?_)
    replace hl := hk
    exact w_X7_undo_12 X hr hlk hK0 hf hW (lv_sub hl [1, 0] rfl)
  · replace hf := zif_pos c13 hf
    refine lv_bipush (v := -2) X.1 X.2.1 dX7_undo_7 (by decide) ?_
    obtain ⟨rfl, rfl⟩ := zi2 hf
    exact ze_retI X hr hlk hW (Nat.le_refl _) (Nat.le_refl _) dX7_undo_9
end

/-! LeastPatternsModel.mixedRegister(JI)J -/
def g_X7_mixedRegister_62 (F : Nat) (K : zK) (R : zR) (a0 : Nat) (k45 : zI → Int32 → Int64 → Int32 → Option (Int64 × zI)) (kself : zI → Int32 → Int64 → Int32 → Int32 → Option (Int64 × zI)) (I : zI) (x3 : Int32) (x4 : Int64) (x6 : Int32) (x7 : Int32) : Option (Int64 × zI) :=
  if (4 : Int32) < x7 then
    k45 I x3 x4 (x6 + (1 : Int32))
  else
    zbd2 (f_X7_nodeOf F K I R a0 x3 x6 x7) fun v2 I3 =>
    zbd (some (((31 : Int64) * x4) + (v2.toInt64))) fun v5 =>
    kself I3 x3 v5 x6 (x7 + (1 : Int32))
def f_X7_mixedRegister_62 (F : Nat) (K : zK) (R : zR) (a0 : Nat) (k45 : zI → Int32 → Int64 → Int32 → Option (Int64 × zI)) : Nat → zI → Int32 → Int64 → Int32 → Int32 → Option (Int64 × zI)
  | 0, _, _, _, _, _ => none
  | t + 1, I, x3, x4, x6, x7 => g_X7_mixedRegister_62 F K R a0 k45 (f_X7_mixedRegister_62 F K R a0 k45 t) I x3 x4 x6 x7
def g_X7_mixedRegister_45 (F : Nat) (K : zK) (R : zR) (a0 : Nat)  (kself : zI → Int32 → Int64 → Int32 → Option (Int64 × zI)) (I : zI) (x3 : Int32) (x4 : Int64) (x6 : Int32) : Option (Int64 × zI) :=
  zbd (some (R a0 0)) fun o6 =>
  zbd (zdr K o6 1) fun a7 =>
  zbd (zrd K I a7 ((97 : Int32) * x3)) fun v10 =>
  if v10 ≤ x6 then
    zbd2 (f_X7_coveredBy F K I R a0 x3) fun v12 I13 =>
    some (((31 : Int64) * x4) + (v12.toInt64), I13)
  else
    f_X7_mixedRegister_62 F K R a0 kself F I x3 x4 x6 (0 : Int32)
def f_X7_mixedRegister_45 (F : Nat) (K : zK) (R : zR) (a0 : Nat)  : Nat → zI → Int32 → Int64 → Int32 → Option (Int64 × zI)
  | 0, _, _, _, _ => none
  | t + 1, I, x3, x4, x6 => g_X7_mixedRegister_45 F K R a0  (f_X7_mixedRegister_45 F K R a0  t) I x3 x4 x6
def g_X7_mixedRegister_13 (F : Nat) (K : zK) (R : zR) (a0 : Nat)  (kself : zI → Int32 → Int64 → Int32 → Option (Int64 × zI)) (I : zI) (x3 : Int32) (x4 : Int64) (x6 : Int32) : Option (Int64 × zI) :=
  if (4 : Int32) < x6 then
    f_X7_mixedRegister_45 F K R a0 F I x3 x4 (0 : Int32)
  else
    zbd2 (f_X7_sizeOf F K I R a0 x3 x6) fun v16 I17 =>
    zbd (some (((31 : Int64) * x4) + (v16.toInt64))) fun v19 =>
    kself I17 x3 v19 (x6 + (1 : Int32))
def f_X7_mixedRegister_13 (F : Nat) (K : zK) (R : zR) (a0 : Nat)  : Nat → zI → Int32 → Int64 → Int32 → Option (Int64 × zI)
  | 0, _, _, _, _ => none
  | t + 1, I, x3, x4, x6 => g_X7_mixedRegister_13 F K R a0  (f_X7_mixedRegister_13 F K R a0  t) I x3 x4 x6
def f_X7_mixedRegister (F : Nat) (K : zK) (I : zI) (R : zR) (a0 : Nat) (x1 : Int64) (x3 : Int32) : Option (Int64 × zI) :=
  zbd (some (((31 : Int64) * x1) + (x3.toInt64))) fun v20 =>
  f_X7_mixedRegister_13 F K R a0 F I x3 v20 (0 : Int32)
section
variable {p : Program} {l : Launch} {e : Env} {s : State} {m : MethodId} {args : Array Value} {below : List Frame} {meth : Method} {c : Code} {D : zD} {B n n0 n' fd ld : Nat} {K K0 K' : zK} {I I' : zI} {R R' : zR} {H : Heap} {locs : List Loc} {ls : Array Slot} {r : Int64}
set_option maxRecDepth 100000 in
set_option maxHeartbeats 4000000 in
theorem wg_X7_mixedRegister_62 {F : Nat} {a0 : Nat} {k45 : zI → Int32 → Int64 → Int32 → Option (Int64 × zI)} (X : zX p s m c cX7_mixedRegister 8 RX7 D) (hr : meth.sig.returnType = some .long) (hlk : meth.locks = false) (hK0 : (K a0).1 = 17) (hk45 : ∀ (I : zI) (x3 : Int32) (x4 : Int64) (x6 : Int32) (H : Heap) (locs : List Loc) (ls : Array Slot), k45 I x3 x4 x6 = some (r, I') → zS (zOwn B K (B + n)) D B n K I R s.heap H locs → lv_has ls 8 [(0, .ref (B + a0)), (3, .int x3), (4, .long x4), (6, .int x6)] → W p l e ({ frames := 7, cells := 0, slots := 0, locals := 190 } : Room) s m args below meth c H locs 0 0 (MQ below (zQl D (zOwn B K (B + n)) r B n K I' R) args s 0 0 (zOwn B K (B + n))) (F0 m 45 ls [])) {kself : zI → Int32 → Int64 → Int32 → Int32 → Option (Int64 × zI)} (hkself : ∀ (I : zI) (x3 : Int32) (x4 : Int64) (x6 : Int32) (x7 : Int32) (H : Heap) (locs : List Loc) (ls : Array Slot), kself I x3 x4 x6 x7 = some (r, I') → zS (zOwn B K (B + n)) D B n K I R s.heap H locs → lv_has ls 8 [(0, .ref (B + a0)), (3, .int x3), (4, .long x4), (6, .int x6), (7, .int x7)] → W p l e ({ frames := 7, cells := 0, slots := 0, locals := 190 } : Room) s m args below meth c H locs 0 0 (MQ below (zQl D (zOwn B K (B + n)) r B n K I' R) args s 0 0 (zOwn B K (B + n))) (F0 m 62 ls [])) {x3 : Int32} {x4 : Int64} {x6 : Int32} {x7 : Int32} (hf : g_X7_mixedRegister_62 F K R a0 k45 kself I x3 x4 x6 x7 = some (r, I')) (hW : zS (zOwn B K (B + n)) D B n K I R s.heap H locs) (hl : lv_has ls 8 [(0, .ref (B + a0)), (3, .int x3), (4, .long x4), (6, .int x6), (7, .int x7)]) : W p l e ({ frames := 7, cells := 0, slots := 0, locals := 190 } : Room) s m args below meth c H locs 0 0 (MQ below (zQl D (zOwn B K (B + n)) r B n K I' R) args s 0 0 (zOwn B K (B + n))) (F0 m 62 ls []) := by
  unfold g_X7_mixedRegister_62 at hf
  refine lv_iload X.1 X.2.1 dX7_mixedRegister_62 (lv_at hl 4 rfl) ?_
  refine lv_iconst (v := 4) X.1 X.2.1 dX7_mixedRegister_64 (by decide) ?_
  refine lv_icmp_gt (tgt := 93) X.1 X.2.1 dX7_mixedRegister_65 (by decide) (fun c1 => ?_) (fun c1 => ?_)
  · replace hf := zif_pos c1 hf
    refine ze_iinc (lv' := [(6, .int (x6 + (1 : Int32))), (0, .ref (B + a0)), (3, .int x3), (4, .long x4), (7, .int x7)]) (d := 1) X.1 X.2.1 dX7_mixedRegister_93 hl (k := 3) rfl (by decide) (by decide) rfl (fun ls hk => ?_)
    replace hl := hk
    refine lv_goto (tgt := 45) X.1 X.2.1 dX7_mixedRegister_96 (by decide) ?_
    exact hk45 _ _ _ _ _ _ _ hf hW (lv_sub hl [1, 2, 3, 0] rfl)
  · replace hf := zif_neg c1 hf
    refine lv_ldc2 X.1 X.2.1 X.2.2.2.1 (X.2.2.2.2.use kcl_X7_306 rfl) dX7_mixedRegister_68 ?_
    refine lv_lload X.1 X.2.1 dX7_mixedRegister_71 (lv_at hl 2 rfl) ?_
    refine lv_lmul X.1 X.2.1 dX7_mixedRegister_73 ?_
    refine lv_aload_n X.1 X.2.1 dX7_mixedRegister_74 rfl (lv_at hl 0 rfl) ?_
    refine lv_iload_n X.1 X.2.1 dX7_mixedRegister_75 rfl (lv_at hl 1 rfl) ?_
    refine lv_iload X.1 X.2.1 dX7_mixedRegister_76 (lv_at hl 3 rfl) ?_
    refine lv_iload X.1 X.2.1 dX7_mixedRegister_78 (lv_at hl 4 rfl) ?_
    obtain ⟨v2, I3, h4, hg⟩ := zh_bd2 hf
    replace hf := hg
    refine ze_aftI0 (ze_runV (As := [.int x3, .int x6, .int x7]) (rest := [.long ((31 : Int64) * x4)]) X 7 207 (c_X7_nodeOf l D B n hK0 h4) vX7_nodeOf kml_X7_207 hW hK0 rfl rfl ⟨by decide, by decide⟩ rfl hl.1 rfl (Nat.le_of_ble_eq_true rfl) ⟨Nat.le_refl _, Nat.le_refl _⟩ dX7_mixedRegister_80) hW (fun H locs hV => ?_)
    replace hW := hV
    refine lv_i2l X.1 X.2.1 dX7_mixedRegister_83 rfl ?_
    refine lv_ladd X.1 X.2.1 dX7_mixedRegister_84 ?_
    refine ze_nml hf (fun v5 hg => ?_)
    replace hf := hg
    refine lv_lstore (lv' := [(4, .long v5), (0, .ref (B + a0)), (3, .int x3), (6, .int x6), (7, .int x7)]) X.1 X.2.1 dX7_mixedRegister_85 hl (by decide) rfl (fun ls hk => ?_)
    replace hl := hk
    refine ze_iinc (lv' := [(7, .int (x7 + (1 : Int32))), (4, .long v5), (0, .ref (B + a0)), (3, .int x3), (6, .int x6)]) (d := 1) X.1 X.2.1 dX7_mixedRegister_87 hl (k := 4) rfl (by decide) (by decide) rfl (fun ls hk => ?_)
    replace hl := hk
    refine lv_goto (tgt := 62) X.1 X.2.1 dX7_mixedRegister_90 (by decide) ?_
    exact hkself _ _ _ _ _ _ _ _ hf hW (lv_sub hl [2, 3, 1, 4, 0] rfl)
set_option maxRecDepth 100000 in
set_option maxHeartbeats 4000000 in
theorem w_X7_mixedRegister_62 {F : Nat} {a0 : Nat} {k45 : zI → Int32 → Int64 → Int32 → Option (Int64 × zI)} (X : zX p s m c cX7_mixedRegister 8 RX7 D) (hr : meth.sig.returnType = some .long) (hlk : meth.locks = false) (hK0 : (K a0).1 = 17) (hk45 : ∀ (I : zI) (x3 : Int32) (x4 : Int64) (x6 : Int32) (H : Heap) (locs : List Loc) (ls : Array Slot), k45 I x3 x4 x6 = some (r, I') → zS (zOwn B K (B + n)) D B n K I R s.heap H locs → lv_has ls 8 [(0, .ref (B + a0)), (3, .int x3), (4, .long x4), (6, .int x6)] → W p l e ({ frames := 7, cells := 0, slots := 0, locals := 190 } : Room) s m args below meth c H locs 0 0 (MQ below (zQl D (zOwn B K (B + n)) r B n K I' R) args s 0 0 (zOwn B K (B + n))) (F0 m 45 ls [])) {t : Nat} {x3 : Int32} {x4 : Int64} {x6 : Int32} {x7 : Int32} (hf : f_X7_mixedRegister_62 F K R a0 k45 t I x3 x4 x6 x7 = some (r, I')) (hW : zS (zOwn B K (B + n)) D B n K I R s.heap H locs) (hl : lv_has ls 8 [(0, .ref (B + a0)), (3, .int x3), (4, .long x4), (6, .int x6), (7, .int x7)]) : W p l e ({ frames := 7, cells := 0, slots := 0, locals := 190 } : Room) s m args below meth c H locs 0 0 (MQ below (zQl D (zOwn B K (B + n)) r B n K I' R) args s 0 0 (zOwn B K (B + n))) (F0 m 62 ls []) := by
  have key : ∀ t : Nat, ∀ (I : zI) (x3 : Int32) (x4 : Int64) (x6 : Int32) (x7 : Int32) (H : Heap) (locs : List Loc) (ls : Array Slot), f_X7_mixedRegister_62 F K R a0 k45 t I x3 x4 x6 x7 = some (r, I') → zS (zOwn B K (B + n)) D B n K I R s.heap H locs → lv_has ls 8 [(0, .ref (B + a0)), (3, .int x3), (4, .long x4), (6, .int x6), (7, .int x7)] → W p l e ({ frames := 7, cells := 0, slots := 0, locals := 190 } : Room) s m args below meth c H locs 0 0 (MQ below (zQl D (zOwn B K (B + n)) r B n K I' R) args s 0 0 (zOwn B K (B + n))) (F0 m 62 ls []) := by
    intro t
    induction t with
    | zero =>
      intro I x3 x4 x6 x7 H locs ls hf hW hl
      cases hf
    | succ t ih =>
      intro I x3 x4 x6 x7 H locs ls hf hW hl
      exact wg_X7_mixedRegister_62 X hr hlk hK0 hk45 ih hf hW hl
  exact key t _ _ _ _ _ _ _ _ hf hW hl
set_option maxRecDepth 100000 in
set_option maxHeartbeats 4000000 in
theorem wg_X7_mixedRegister_45 {F : Nat} {a0 : Nat}  (X : zX p s m c cX7_mixedRegister 8 RX7 D) (hr : meth.sig.returnType = some .long) (hlk : meth.locks = false) (hK0 : (K a0).1 = 17)  {kself : zI → Int32 → Int64 → Int32 → Option (Int64 × zI)} (hkself : ∀ (I : zI) (x3 : Int32) (x4 : Int64) (x6 : Int32) (H : Heap) (locs : List Loc) (ls : Array Slot), kself I x3 x4 x6 = some (r, I') → zS (zOwn B K (B + n)) D B n K I R s.heap H locs → lv_has ls 8 [(0, .ref (B + a0)), (3, .int x3), (4, .long x4), (6, .int x6)] → W p l e ({ frames := 7, cells := 0, slots := 0, locals := 190 } : Room) s m args below meth c H locs 0 0 (MQ below (zQl D (zOwn B K (B + n)) r B n K I' R) args s 0 0 (zOwn B K (B + n))) (F0 m 45 ls [])) {x3 : Int32} {x4 : Int64} {x6 : Int32} (hf : g_X7_mixedRegister_45 F K R a0  kself I x3 x4 x6 = some (r, I')) (hW : zS (zOwn B K (B + n)) D B n K I R s.heap H locs) (hl : lv_has ls 8 [(0, .ref (B + a0)), (3, .int x3), (4, .long x4), (6, .int x6)]) : W p l e ({ frames := 7, cells := 0, slots := 0, locals := 190 } : Room) s m args below meth c H locs 0 0 (MQ below (zQl D (zOwn B K (B + n)) r B n K I' R) args s 0 0 (zOwn B K (B + n))) (F0 m 45 ls []) := by
  unfold g_X7_mixedRegister_45 at hf
  refine lv_iload X.1 X.2.1 dX7_mixedRegister_45 (lv_at hl 3 rfl) ?_
  refine lv_aload_n X.1 X.2.1 dX7_mixedRegister_47 rfl (lv_at hl 0 rfl) ?_
  refine ze_gtR X 7 0 7 (RX7, TX7, 39) rfl hf hW hK0 rfl (by decide) kfl_X7_7 dX7_mixedRegister_48 (fun o6 hg => ?_)
  replace hf := hg
  refine lv_bipush (v := 97) X.1 X.2.1 dX7_mixedRegister_51 (by decide) ?_
  refine lv_iload_n X.1 X.2.1 dX7_mixedRegister_53 rfl (lv_at hl 1 rfl) ?_
  refine lv_imul X.1 X.2.1 dX7_mixedRegister_54 ?_
  obtain ⟨a7, rfl, k9, hg⟩ := zh_dr hf
  replace hf := hg
  refine ze_iald X hf hW k9 dX7_mixedRegister_55 (fun v10 hg => ?_)
  replace hf := hg
  refine lv_icmp_ge (tgt := 99) X.1 X.2.1 dX7_mixedRegister_56 (by decide) (fun c11 => ?_) (fun c11 => ?_)
  · replace hf := zif_pos c11 hf
    refine lv_ldc2 X.1 X.2.1 X.2.2.2.1 (X.2.2.2.2.use kcl_X7_306 rfl) dX7_mixedRegister_99 ?_
    refine lv_lload X.1 X.2.1 dX7_mixedRegister_102 (lv_at hl 2 rfl) ?_
    refine lv_lmul X.1 X.2.1 dX7_mixedRegister_104 ?_
    refine lv_aload_n X.1 X.2.1 dX7_mixedRegister_105 rfl (lv_at hl 0 rfl) ?_
    refine lv_iload_n X.1 X.2.1 dX7_mixedRegister_106 rfl (lv_at hl 1 rfl) ?_
    obtain ⟨v12, I13, h14, hg⟩ := zh_bd2 hf
    replace hf := hg
    refine ze_aftI0 (ze_runV (As := [.int x3]) (rest := [.long ((31 : Int64) * x4)]) X 7 277 (c_X7_coveredBy l D B n hK0 h14) vX7_coveredBy kml_X7_277 hW hK0 rfl rfl ⟨by decide, by decide⟩ rfl hl.1 rfl (Nat.le_of_ble_eq_true rfl) ⟨Nat.le_refl _, Nat.le_refl _⟩ dX7_mixedRegister_107) hW (fun H locs hV => ?_)
    replace hW := hV
    refine lv_i2l X.1 X.2.1 dX7_mixedRegister_110 rfl ?_
    refine lv_ladd X.1 X.2.1 dX7_mixedRegister_111 ?_
    obtain ⟨rfl, rfl⟩ := zi2 hf
    exact ze_retL X hr hlk hW (Nat.le_refl _) (Nat.le_refl _) dX7_mixedRegister_112
  · replace hf := zif_neg c11 hf
    refine lv_iconst (v := 0) X.1 X.2.1 dX7_mixedRegister_59 (by decide) ?_
    refine lv_istore (lv' := [(7, .int (0 : Int32)), (0, .ref (B + a0)), (3, .int x3), (4, .long x4), (6, .int x6)]) X.1 X.2.1 dX7_mixedRegister_60 hl (by decide) rfl (fun ls hk => ?_)
    replace hl := hk
    exact w_X7_mixedRegister_62 X hr hlk hK0 hkself hf hW (lv_sub hl [1, 2, 3, 4, 0] rfl)
set_option maxRecDepth 100000 in
set_option maxHeartbeats 4000000 in
theorem w_X7_mixedRegister_45 {F : Nat} {a0 : Nat}  (X : zX p s m c cX7_mixedRegister 8 RX7 D) (hr : meth.sig.returnType = some .long) (hlk : meth.locks = false) (hK0 : (K a0).1 = 17)  {t : Nat} {x3 : Int32} {x4 : Int64} {x6 : Int32} (hf : f_X7_mixedRegister_45 F K R a0  t I x3 x4 x6 = some (r, I')) (hW : zS (zOwn B K (B + n)) D B n K I R s.heap H locs) (hl : lv_has ls 8 [(0, .ref (B + a0)), (3, .int x3), (4, .long x4), (6, .int x6)]) : W p l e ({ frames := 7, cells := 0, slots := 0, locals := 190 } : Room) s m args below meth c H locs 0 0 (MQ below (zQl D (zOwn B K (B + n)) r B n K I' R) args s 0 0 (zOwn B K (B + n))) (F0 m 45 ls []) := by
  have key : ∀ t : Nat, ∀ (I : zI) (x3 : Int32) (x4 : Int64) (x6 : Int32) (H : Heap) (locs : List Loc) (ls : Array Slot), f_X7_mixedRegister_45 F K R a0  t I x3 x4 x6 = some (r, I') → zS (zOwn B K (B + n)) D B n K I R s.heap H locs → lv_has ls 8 [(0, .ref (B + a0)), (3, .int x3), (4, .long x4), (6, .int x6)] → W p l e ({ frames := 7, cells := 0, slots := 0, locals := 190 } : Room) s m args below meth c H locs 0 0 (MQ below (zQl D (zOwn B K (B + n)) r B n K I' R) args s 0 0 (zOwn B K (B + n))) (F0 m 45 ls []) := by
    intro t
    induction t with
    | zero =>
      intro I x3 x4 x6 H locs ls hf hW hl
      cases hf
    | succ t ih =>
      intro I x3 x4 x6 H locs ls hf hW hl
      exact wg_X7_mixedRegister_45 X hr hlk hK0  ih hf hW hl
  exact key t _ _ _ _ _ _ _ hf hW hl
set_option maxRecDepth 100000 in
set_option maxHeartbeats 4000000 in
theorem wg_X7_mixedRegister_13 {F : Nat} {a0 : Nat}  (X : zX p s m c cX7_mixedRegister 8 RX7 D) (hr : meth.sig.returnType = some .long) (hlk : meth.locks = false) (hK0 : (K a0).1 = 17)  {kself : zI → Int32 → Int64 → Int32 → Option (Int64 × zI)} (hkself : ∀ (I : zI) (x3 : Int32) (x4 : Int64) (x6 : Int32) (H : Heap) (locs : List Loc) (ls : Array Slot), kself I x3 x4 x6 = some (r, I') → zS (zOwn B K (B + n)) D B n K I R s.heap H locs → lv_has ls 8 [(0, .ref (B + a0)), (3, .int x3), (4, .long x4), (6, .int x6)] → W p l e ({ frames := 7, cells := 0, slots := 0, locals := 190 } : Room) s m args below meth c H locs 0 0 (MQ below (zQl D (zOwn B K (B + n)) r B n K I' R) args s 0 0 (zOwn B K (B + n))) (F0 m 13 ls [])) {x3 : Int32} {x4 : Int64} {x6 : Int32} (hf : g_X7_mixedRegister_13 F K R a0  kself I x3 x4 x6 = some (r, I')) (hW : zS (zOwn B K (B + n)) D B n K I R s.heap H locs) (hl : lv_has ls 8 [(0, .ref (B + a0)), (3, .int x3), (4, .long x4), (6, .int x6)]) : W p l e ({ frames := 7, cells := 0, slots := 0, locals := 190 } : Room) s m args below meth c H locs 0 0 (MQ below (zQl D (zOwn B K (B + n)) r B n K I' R) args s 0 0 (zOwn B K (B + n))) (F0 m 13 ls []) := by
  unfold g_X7_mixedRegister_13 at hf
  refine lv_iload X.1 X.2.1 dX7_mixedRegister_13 (lv_at hl 3 rfl) ?_
  refine lv_iconst (v := 4) X.1 X.2.1 dX7_mixedRegister_15 (by decide) ?_
  refine lv_icmp_gt (tgt := 42) X.1 X.2.1 dX7_mixedRegister_16 (by decide) (fun c15 => ?_) (fun c15 => ?_)
  · replace hf := zif_pos c15 hf
    refine lv_iconst (v := 0) X.1 X.2.1 dX7_mixedRegister_42 (by decide) ?_
    refine lv_istore (lv' := [(6, .int (0 : Int32)), (0, .ref (B + a0)), (3, .int x3), (4, .long x4)]) X.1 X.2.1 dX7_mixedRegister_43 hl (by decide) rfl (fun ls hk => ?_)
    replace hl := hk
    exact w_X7_mixedRegister_45 X hr hlk hK0 hf hW (lv_sub hl [1, 2, 3, 0] rfl)
  · replace hf := zif_neg c15 hf
    refine lv_ldc2 X.1 X.2.1 X.2.2.2.1 (X.2.2.2.2.use kcl_X7_306 rfl) dX7_mixedRegister_19 ?_
    refine lv_lload X.1 X.2.1 dX7_mixedRegister_22 (lv_at hl 2 rfl) ?_
    refine lv_lmul X.1 X.2.1 dX7_mixedRegister_24 ?_
    refine lv_aload_n X.1 X.2.1 dX7_mixedRegister_25 rfl (lv_at hl 0 rfl) ?_
    refine lv_iload_n X.1 X.2.1 dX7_mixedRegister_26 rfl (lv_at hl 1 rfl) ?_
    refine lv_iload X.1 X.2.1 dX7_mixedRegister_27 (lv_at hl 3 rfl) ?_
    obtain ⟨v16, I17, h18, hg⟩ := zh_bd2 hf
    replace hf := hg
    refine ze_aftI0 (ze_runV (As := [.int x3, .int x6]) (rest := [.long ((31 : Int64) * x4)]) X 7 214 (c_X7_sizeOf l D B n hK0 h18) vX7_sizeOf kml_X7_214 hW hK0 rfl rfl ⟨by decide, by decide⟩ rfl hl.1 rfl (Nat.le_of_ble_eq_true rfl) ⟨Nat.le_refl _, Nat.le_refl _⟩ dX7_mixedRegister_29) hW (fun H locs hV => ?_)
    replace hW := hV
    refine lv_i2l X.1 X.2.1 dX7_mixedRegister_32 rfl ?_
    refine lv_ladd X.1 X.2.1 dX7_mixedRegister_33 ?_
    refine ze_nml hf (fun v19 hg => ?_)
    replace hf := hg
    refine lv_lstore (lv' := [(4, .long v19), (0, .ref (B + a0)), (3, .int x3), (6, .int x6)]) X.1 X.2.1 dX7_mixedRegister_34 hl (by decide) rfl (fun ls hk => ?_)
    replace hl := hk
    refine ze_iinc (lv' := [(6, .int (x6 + (1 : Int32))), (4, .long v19), (0, .ref (B + a0)), (3, .int x3)]) (d := 1) X.1 X.2.1 dX7_mixedRegister_36 hl (k := 3) rfl (by decide) (by decide) rfl (fun ls hk => ?_)
    replace hl := hk
    refine lv_goto (tgt := 13) X.1 X.2.1 dX7_mixedRegister_39 (by decide) ?_
    exact hkself _ _ _ _ _ _ _ hf hW (lv_sub hl [2, 3, 1, 0] rfl)
set_option maxRecDepth 100000 in
set_option maxHeartbeats 4000000 in
theorem w_X7_mixedRegister_13 {F : Nat} {a0 : Nat}  (X : zX p s m c cX7_mixedRegister 8 RX7 D) (hr : meth.sig.returnType = some .long) (hlk : meth.locks = false) (hK0 : (K a0).1 = 17)  {t : Nat} {x3 : Int32} {x4 : Int64} {x6 : Int32} (hf : f_X7_mixedRegister_13 F K R a0  t I x3 x4 x6 = some (r, I')) (hW : zS (zOwn B K (B + n)) D B n K I R s.heap H locs) (hl : lv_has ls 8 [(0, .ref (B + a0)), (3, .int x3), (4, .long x4), (6, .int x6)]) : W p l e ({ frames := 7, cells := 0, slots := 0, locals := 190 } : Room) s m args below meth c H locs 0 0 (MQ below (zQl D (zOwn B K (B + n)) r B n K I' R) args s 0 0 (zOwn B K (B + n))) (F0 m 13 ls []) := by
  have key : ∀ t : Nat, ∀ (I : zI) (x3 : Int32) (x4 : Int64) (x6 : Int32) (H : Heap) (locs : List Loc) (ls : Array Slot), f_X7_mixedRegister_13 F K R a0  t I x3 x4 x6 = some (r, I') → zS (zOwn B K (B + n)) D B n K I R s.heap H locs → lv_has ls 8 [(0, .ref (B + a0)), (3, .int x3), (4, .long x4), (6, .int x6)] → W p l e ({ frames := 7, cells := 0, slots := 0, locals := 190 } : Room) s m args below meth c H locs 0 0 (MQ below (zQl D (zOwn B K (B + n)) r B n K I' R) args s 0 0 (zOwn B K (B + n))) (F0 m 13 ls []) := by
    intro t
    induction t with
    | zero =>
      intro I x3 x4 x6 H locs ls hf hW hl
      cases hf
    | succ t ih =>
      intro I x3 x4 x6 H locs ls hf hW hl
      exact wg_X7_mixedRegister_13 X hr hlk hK0  ih hf hW hl
  exact key t _ _ _ _ _ _ _ hf hW hl
set_option maxRecDepth 100000 in
set_option maxHeartbeats 4000000 in
theorem c_X7_mixedRegister (l : Launch) (D : zD) (B n : Nat) {F : Nat} {K : zK} {I : zI} {R : zR} {a0 : Nat} {x1 : Int64} {x3 : Int32} {r : Int64} {I' : zI} (hK0 : (K a0).1 = 17) (hf : f_X7_mixedRegister F K I R a0 x1 x3 = some (r, I')) : zM l yX7_mixedRegister cX7_mixedRegister 8 (some .long) ({ frames := 7, cells := 0, slots := 0, locals := 190 } : Room) D B n K I R [.ref (B + a0), .long x1, .int x3] (zQl D (zOwn B K (B + n)) r B n K I' R) := by
  refine ze_entry (lv0 := [(0, .ref (B + a0)), (1, .long x1), (3, .int x3)]) (by decide) (by simp [lg_sl, zcat, zcat_i, zcat_r, zcat_l]) (by simp [lv_args, zcat, zcat_i, zcat_r, zcat_l]) (fun p e s m below meth c X hr hlk hin hW ls hl => ?_)
  unfold f_X7_mixedRegister at hf
  refine lv_ldc2 X.1 X.2.1 X.2.2.2.1 (X.2.2.2.2.use kcl_X7_306 rfl) dX7_mixedRegister_0 ?_
  refine lv_lload_n X.1 X.2.1 dX7_mixedRegister_3 rfl (lv_at hl 1 rfl) ?_
  refine lv_lmul X.1 X.2.1 dX7_mixedRegister_4 ?_
  refine lv_iload_n X.1 X.2.1 dX7_mixedRegister_5 rfl (lv_at hl 2 rfl) ?_
  refine lv_i2l X.1 X.2.1 dX7_mixedRegister_6 rfl ?_
  refine lv_ladd X.1 X.2.1 dX7_mixedRegister_7 ?_
  refine ze_nml hf (fun v20 hg => ?_)
  replace hf := hg
  refine lv_lstore (lv' := [(4, .long v20), (0, .ref (B + a0)), (1, .long x1), (3, .int x3)]) X.1 X.2.1 dX7_mixedRegister_8 hl (by decide) rfl (fun ls hk => ?_)
  replace hl := hk
  refine lv_iconst (v := 0) X.1 X.2.1 dX7_mixedRegister_10 (by decide) ?_
  refine lv_istore (lv' := [(6, .int (0 : Int32)), (4, .long v20), (0, .ref (B + a0)), (1, .long x1), (3, .int x3)]) X.1 X.2.1 dX7_mixedRegister_11 hl (by decide) rfl (fun ls hk => ?_)
  replace hl := hk
  exact w_X7_mixedRegister_13 X hr hlk hK0 hf hW (lv_sub hl [2, 4, 1, 0] rfl)
end

/-! LeastPatternsModel.digest()J -/
def f_X7_digest_57 (F : Nat) (K : zK) (R : zR) (a0 : Nat) (k33 : zI → Int64 → Int32 → Option (Int64 × zI)) (I : zI) (x3 : Int32) (s0 : Int64) : Option (Int64 × zI) :=
  k33 I s0 (x3 + (1 : Int32))
def g_X7_digest_33 (F : Nat) (K : zK) (R : zR) (a0 : Nat)  (kself : zI → Int64 → Int32 → Option (Int64 × zI)) (I : zI) (x1 : Int64) (x3 : Int32) : Option (Int64 × zI) :=
  if (8 : Int32) ≤ x3 then
    some (((31 : Int64) * x1) + ((I a0 4).toInt64), I)
  else
    zbd (f_X7_isEmpty F K I R a0 x3) fun v2 =>
    if v2 = (0 : Int32) then
      zbd2 (f_X7_mixedRegister F K I R a0 x1 x3) fun v5 I6 =>
      f_X7_digest_57 F K R a0 kself I6 x3 v5
    else
      f_X7_digest_57 F K R a0 kself I x3 x1
def f_X7_digest_33 (F : Nat) (K : zK) (R : zR) (a0 : Nat)  : Nat → zI → Int64 → Int32 → Option (Int64 × zI)
  | 0, _, _, _ => none
  | t + 1, I, x1, x3 => g_X7_digest_33 F K R a0  (f_X7_digest_33 F K R a0  t) I x1 x3
def g_X7_digest_6 (F : Nat) (K : zK) (R : zR) (a0 : Nat)  (kself : zI → Int64 → Int32 → Option (Int64 × zI)) (I : zI) (x1 : Int64) (x3 : Int32) : Option (Int64 × zI) :=
  if (7 : Int32) < x3 then
    f_X7_digest_33 F K R a0 F I x1 (0 : Int32)
  else
    zbd (f_X7_told F K I R a0 x3) fun v9 =>
    zbd (some (((31 : Int64) * x1) + (v9.toInt64))) fun v11 =>
    kself I v11 (x3 + (1 : Int32))
def f_X7_digest_6 (F : Nat) (K : zK) (R : zR) (a0 : Nat)  : Nat → zI → Int64 → Int32 → Option (Int64 × zI)
  | 0, _, _, _ => none
  | t + 1, I, x1, x3 => g_X7_digest_6 F K R a0  (f_X7_digest_6 F K R a0  t) I x1 x3
def f_X7_digest (F : Nat) (K : zK) (I : zI) (R : zR) (a0 : Nat)  : Option (Int64 × zI) :=
  f_X7_digest_6 F K R a0 F I (17369 : Int64) (0 : Int32)
section
variable {p : Program} {l : Launch} {e : Env} {s : State} {m : MethodId} {args : Array Value} {below : List Frame} {meth : Method} {c : Code} {D : zD} {B n n0 n' fd ld : Nat} {K K0 K' : zK} {I I' : zI} {R R' : zR} {H : Heap} {locs : List Loc} {ls : Array Slot} {r : Int64}
set_option maxRecDepth 100000 in
set_option maxHeartbeats 4000000 in
theorem w_X7_digest_57 {F : Nat} {a0 : Nat} {k33 : zI → Int64 → Int32 → Option (Int64 × zI)} (X : zX p s m c cX7_digest 4 RX7 D) (hr : meth.sig.returnType = some .long) (hlk : meth.locks = false) (hK0 : (K a0).1 = 17) (hk33 : ∀ (I : zI) (x1 : Int64) (x3 : Int32) (H : Heap) (locs : List Loc) (ls : Array Slot), k33 I x1 x3 = some (r, I') → zS (zOwn B K (B + n)) D B n K I R s.heap H locs → lv_has ls 4 [(0, .ref (B + a0)), (1, .long x1), (3, .int x3)] → W p l e ({ frames := 8, cells := 0, slots := 0, locals := 217 } : Room) s m args below meth c H locs 0 0 (MQ below (zQl D (zOwn B K (B + n)) r B n K I' R) args s 0 0 (zOwn B K (B + n))) (F0 m 33 ls [])) {x3 : Int32} {s0 : Int64} (hf : f_X7_digest_57 F K R a0 k33 I x3 s0 = some (r, I')) (hW : zS (zOwn B K (B + n)) D B n K I R s.heap H locs) (hl : lv_has ls 4 [(0, .ref (B + a0)), (3, .int x3)]) : W p l e ({ frames := 8, cells := 0, slots := 0, locals := 217 } : Room) s m args below meth c H locs 0 0 (MQ below (zQl D (zOwn B K (B + n)) r B n K I' R) args s 0 0 (zOwn B K (B + n))) (F0 m 57 ls [.long s0]) := by
  unfold f_X7_digest_57 at hf
  refine lv_lstore_n (i := 1) (lv' := [(1, .long s0), (0, .ref (B + a0)), (3, .int x3)]) X.1 X.2.1 dX7_digest_57 rfl hl (by decide) rfl (fun ls hk => ?_)
  replace hl := hk
  refine ze_iinc (lv' := [(3, .int (x3 + (1 : Int32))), (1, .long s0), (0, .ref (B + a0))]) (d := 1) X.1 X.2.1 dX7_digest_58 hl (k := 2) rfl (by decide) (by decide) rfl (fun ls hk => ?_)
  replace hl := hk
  refine lv_goto (tgt := 33) X.1 X.2.1 dX7_digest_61 (by decide) ?_
  exact hk33 _ _ _ _ _ _ hf hW (lv_sub hl [2, 1, 0] rfl)
set_option maxRecDepth 100000 in
set_option maxHeartbeats 4000000 in
theorem wg_X7_digest_33 {F : Nat} {a0 : Nat}  (X : zX p s m c cX7_digest 4 RX7 D) (hr : meth.sig.returnType = some .long) (hlk : meth.locks = false) (hK0 : (K a0).1 = 17)  {kself : zI → Int64 → Int32 → Option (Int64 × zI)} (hkself : ∀ (I : zI) (x1 : Int64) (x3 : Int32) (H : Heap) (locs : List Loc) (ls : Array Slot), kself I x1 x3 = some (r, I') → zS (zOwn B K (B + n)) D B n K I R s.heap H locs → lv_has ls 4 [(0, .ref (B + a0)), (1, .long x1), (3, .int x3)] → W p l e ({ frames := 8, cells := 0, slots := 0, locals := 217 } : Room) s m args below meth c H locs 0 0 (MQ below (zQl D (zOwn B K (B + n)) r B n K I' R) args s 0 0 (zOwn B K (B + n))) (F0 m 33 ls [])) {x1 : Int64} {x3 : Int32} (hf : g_X7_digest_33 F K R a0  kself I x1 x3 = some (r, I')) (hW : zS (zOwn B K (B + n)) D B n K I R s.heap H locs) (hl : lv_has ls 4 [(0, .ref (B + a0)), (1, .long x1), (3, .int x3)]) : W p l e ({ frames := 8, cells := 0, slots := 0, locals := 217 } : Room) s m args below meth c H locs 0 0 (MQ below (zQl D (zOwn B K (B + n)) r B n K I' R) args s 0 0 (zOwn B K (B + n))) (F0 m 33 ls []) := by
  unfold g_X7_digest_33 at hf
  refine lv_iload_n X.1 X.2.1 dX7_digest_33 rfl (lv_at hl 2 rfl) ?_
  refine lv_bipush (v := 8) X.1 X.2.1 dX7_digest_34 (by decide) ?_
  refine lv_icmp_ge (tgt := 64) X.1 X.2.1 dX7_digest_36 (by decide) (fun c1 => ?_) (fun c1 => ?_)
  · replace hf := zif_pos c1 hf
    refine lv_ldc2 X.1 X.2.1 X.2.2.2.1 (X.2.2.2.2.use kcl_X7_306 rfl) dX7_digest_64 ?_
    refine lv_lload_n X.1 X.2.1 dX7_digest_67 rfl (lv_at hl 1 rfl) ?_
    refine lv_lmul X.1 X.2.1 dX7_digest_68 ?_
    refine lv_aload_n X.1 X.2.1 dX7_digest_69 rfl (lv_at hl 0 rfl) ?_
    refine ze_getI X 7 4 16 (RX7, TX7, 39) rfl hW hK0 rfl (by decide) kfl_X7_16 dX7_digest_70 ?_
    refine lv_i2l X.1 X.2.1 dX7_digest_73 rfl ?_
    refine lv_ladd X.1 X.2.1 dX7_digest_74 ?_
    obtain ⟨rfl, rfl⟩ := zi2 hf
    exact ze_retL X hr hlk hW (Nat.le_refl _) (Nat.le_refl _) dX7_digest_75
  · replace hf := zif_neg c1 hf
    refine lv_aload_n X.1 X.2.1 dX7_digest_39 rfl (lv_at hl 0 rfl) ?_
    refine lv_iload_n X.1 X.2.1 dX7_digest_40 rfl (lv_at hl 2 rfl) ?_
    obtain ⟨v2, h3, hg⟩ := zh_bd hf
    replace hf := hg
    refine ze_aftI0 (ze_runV (As := [.int x3]) (rest := []) X 7 204 (c_X7_isEmpty l D B n hK0 h3) vX7_isEmpty kml_X7_204 hW hK0 rfl rfl ⟨by decide, by decide⟩ rfl hl.1 rfl (Nat.le_of_ble_eq_true rfl) ⟨Nat.le_refl _, Nat.le_refl _⟩ dX7_digest_41) hW (fun H locs hV => ?_)
    replace hW := hV
    refine lv_if_eq (tgt := 51) X.1 X.2.1 dX7_digest_44 (by decide) (fun c4 => ?_) (fun c4 => ?_)
    · replace hf := zif_pos c4 hf
      refine lv_aload_n X.1 X.2.1 dX7_digest_51 rfl (lv_at hl 0 rfl) ?_
      refine lv_lload_n X.1 X.2.1 dX7_digest_52 rfl (lv_at hl 1 rfl) ?_
      refine lv_iload_n X.1 X.2.1 dX7_digest_53 rfl (lv_at hl 2 rfl) ?_
      obtain ⟨v5, I6, h7, hg⟩ := zh_bd2 hf
      replace hf := hg
      refine ze_aftL0 (ze_runV (As := [.long x1, .int x3]) (rest := []) X 7 313 (c_X7_mixedRegister l D B n hK0 h7) vX7_mixedRegister kml_X7_313 hW hK0 rfl rfl ⟨by decide, by decide⟩ rfl hl.1 rfl (Nat.le_of_ble_eq_true rfl) ⟨Nat.le_refl _, Nat.le_refl _⟩ dX7_digest_54) hW (fun H locs hV => ?_)
      replace hW := hV
      exact w_X7_digest_57 X hr hlk hK0 hkself hf hW (lv_sub hl [0, 2] rfl)
    · replace hf := zif_neg c4 hf
      refine lv_lload_n X.1 X.2.1 dX7_digest_47 rfl (lv_at hl 1 rfl) ?_
      refine lv_goto (tgt := 57) X.1 X.2.1 dX7_digest_48 (by decide) ?_
      exact w_X7_digest_57 X hr hlk hK0 hkself hf hW (lv_sub hl [0, 2] rfl)
set_option maxRecDepth 100000 in
set_option maxHeartbeats 4000000 in
theorem w_X7_digest_33 {F : Nat} {a0 : Nat}  (X : zX p s m c cX7_digest 4 RX7 D) (hr : meth.sig.returnType = some .long) (hlk : meth.locks = false) (hK0 : (K a0).1 = 17)  {t : Nat} {x1 : Int64} {x3 : Int32} (hf : f_X7_digest_33 F K R a0  t I x1 x3 = some (r, I')) (hW : zS (zOwn B K (B + n)) D B n K I R s.heap H locs) (hl : lv_has ls 4 [(0, .ref (B + a0)), (1, .long x1), (3, .int x3)]) : W p l e ({ frames := 8, cells := 0, slots := 0, locals := 217 } : Room) s m args below meth c H locs 0 0 (MQ below (zQl D (zOwn B K (B + n)) r B n K I' R) args s 0 0 (zOwn B K (B + n))) (F0 m 33 ls []) := by
  have key : ∀ t : Nat, ∀ (I : zI) (x1 : Int64) (x3 : Int32) (H : Heap) (locs : List Loc) (ls : Array Slot), f_X7_digest_33 F K R a0  t I x1 x3 = some (r, I') → zS (zOwn B K (B + n)) D B n K I R s.heap H locs → lv_has ls 4 [(0, .ref (B + a0)), (1, .long x1), (3, .int x3)] → W p l e ({ frames := 8, cells := 0, slots := 0, locals := 217 } : Room) s m args below meth c H locs 0 0 (MQ below (zQl D (zOwn B K (B + n)) r B n K I' R) args s 0 0 (zOwn B K (B + n))) (F0 m 33 ls []) := by
    intro t
    induction t with
    | zero =>
      intro I x1 x3 H locs ls hf hW hl
      cases hf
    | succ t ih =>
      intro I x1 x3 H locs ls hf hW hl
      exact wg_X7_digest_33 X hr hlk hK0  ih hf hW hl
  exact key t _ _ _ _ _ _ hf hW hl
set_option maxRecDepth 100000 in
set_option maxHeartbeats 4000000 in
theorem wg_X7_digest_6 {F : Nat} {a0 : Nat}  (X : zX p s m c cX7_digest 4 RX7 D) (hr : meth.sig.returnType = some .long) (hlk : meth.locks = false) (hK0 : (K a0).1 = 17)  {kself : zI → Int64 → Int32 → Option (Int64 × zI)} (hkself : ∀ (I : zI) (x1 : Int64) (x3 : Int32) (H : Heap) (locs : List Loc) (ls : Array Slot), kself I x1 x3 = some (r, I') → zS (zOwn B K (B + n)) D B n K I R s.heap H locs → lv_has ls 4 [(0, .ref (B + a0)), (1, .long x1), (3, .int x3)] → W p l e ({ frames := 8, cells := 0, slots := 0, locals := 217 } : Room) s m args below meth c H locs 0 0 (MQ below (zQl D (zOwn B K (B + n)) r B n K I' R) args s 0 0 (zOwn B K (B + n))) (F0 m 6 ls [])) {x1 : Int64} {x3 : Int32} (hf : g_X7_digest_6 F K R a0  kself I x1 x3 = some (r, I')) (hW : zS (zOwn B K (B + n)) D B n K I R s.heap H locs) (hl : lv_has ls 4 [(0, .ref (B + a0)), (1, .long x1), (3, .int x3)]) : W p l e ({ frames := 8, cells := 0, slots := 0, locals := 217 } : Room) s m args below meth c H locs 0 0 (MQ below (zQl D (zOwn B K (B + n)) r B n K I' R) args s 0 0 (zOwn B K (B + n))) (F0 m 6 ls []) := by
  unfold g_X7_digest_6 at hf
  refine lv_iload_n X.1 X.2.1 dX7_digest_6 rfl (lv_at hl 2 rfl) ?_
  refine lv_bipush (v := 7) X.1 X.2.1 dX7_digest_7 (by decide) ?_
  refine lv_icmp_gt (tgt := 31) X.1 X.2.1 dX7_digest_9 (by decide) (fun c8 => ?_) (fun c8 => ?_)
  · replace hf := zif_pos c8 hf
    refine lv_iconst (v := 0) X.1 X.2.1 dX7_digest_31 (by decide) ?_
    refine lv_istore_n (i := 3) (lv' := [(3, .int (0 : Int32)), (0, .ref (B + a0)), (1, .long x1)]) X.1 X.2.1 dX7_digest_32 rfl hl (by decide) rfl (fun ls hk => ?_)
    replace hl := hk
    exact w_X7_digest_33 X hr hlk hK0 hf hW (lv_sub hl [1, 2, 0] rfl)
  · replace hf := zif_neg c8 hf
    refine lv_ldc2 X.1 X.2.1 X.2.2.2.1 (X.2.2.2.2.use kcl_X7_306 rfl) dX7_digest_12 ?_
    refine lv_lload_n X.1 X.2.1 dX7_digest_15 rfl (lv_at hl 1 rfl) ?_
    refine lv_lmul X.1 X.2.1 dX7_digest_16 ?_
    refine lv_aload_n X.1 X.2.1 dX7_digest_17 rfl (lv_at hl 0 rfl) ?_
    refine lv_iload_n X.1 X.2.1 dX7_digest_18 rfl (lv_at hl 2 rfl) ?_
    obtain ⟨v9, h10, hg⟩ := zh_bd hf
    replace hf := hg
    refine ze_aftI0 (ze_runV (As := [.int x3]) (rest := [.long ((31 : Int64) * x1)]) X 7 310 (c_X7_told l D B n hK0 h10) vX7_told kml_X7_310 hW hK0 rfl rfl ⟨by decide, by decide⟩ rfl hl.1 rfl (Nat.le_of_ble_eq_true rfl) ⟨Nat.le_refl _, Nat.le_refl _⟩ dX7_digest_19) hW (fun H locs hV => ?_)
    replace hW := hV
    refine lv_i2l X.1 X.2.1 dX7_digest_22 rfl ?_
    refine lv_ladd X.1 X.2.1 dX7_digest_23 ?_
    refine ze_nml hf (fun v11 hg => ?_)
    replace hf := hg
    refine lv_lstore_n (i := 1) (lv' := [(1, .long v11), (0, .ref (B + a0)), (3, .int x3)]) X.1 X.2.1 dX7_digest_24 rfl hl (by decide) rfl (fun ls hk => ?_)
    replace hl := hk
    refine ze_iinc (lv' := [(3, .int (x3 + (1 : Int32))), (1, .long v11), (0, .ref (B + a0))]) (d := 1) X.1 X.2.1 dX7_digest_25 hl (k := 2) rfl (by decide) (by decide) rfl (fun ls hk => ?_)
    replace hl := hk
    refine lv_goto (tgt := 6) X.1 X.2.1 dX7_digest_28 (by decide) ?_
    exact hkself _ _ _ _ _ _ hf hW (lv_sub hl [2, 1, 0] rfl)
set_option maxRecDepth 100000 in
set_option maxHeartbeats 4000000 in
theorem w_X7_digest_6 {F : Nat} {a0 : Nat}  (X : zX p s m c cX7_digest 4 RX7 D) (hr : meth.sig.returnType = some .long) (hlk : meth.locks = false) (hK0 : (K a0).1 = 17)  {t : Nat} {x1 : Int64} {x3 : Int32} (hf : f_X7_digest_6 F K R a0  t I x1 x3 = some (r, I')) (hW : zS (zOwn B K (B + n)) D B n K I R s.heap H locs) (hl : lv_has ls 4 [(0, .ref (B + a0)), (1, .long x1), (3, .int x3)]) : W p l e ({ frames := 8, cells := 0, slots := 0, locals := 217 } : Room) s m args below meth c H locs 0 0 (MQ below (zQl D (zOwn B K (B + n)) r B n K I' R) args s 0 0 (zOwn B K (B + n))) (F0 m 6 ls []) := by
  have key : ∀ t : Nat, ∀ (I : zI) (x1 : Int64) (x3 : Int32) (H : Heap) (locs : List Loc) (ls : Array Slot), f_X7_digest_6 F K R a0  t I x1 x3 = some (r, I') → zS (zOwn B K (B + n)) D B n K I R s.heap H locs → lv_has ls 4 [(0, .ref (B + a0)), (1, .long x1), (3, .int x3)] → W p l e ({ frames := 8, cells := 0, slots := 0, locals := 217 } : Room) s m args below meth c H locs 0 0 (MQ below (zQl D (zOwn B K (B + n)) r B n K I' R) args s 0 0 (zOwn B K (B + n))) (F0 m 6 ls []) := by
    intro t
    induction t with
    | zero =>
      intro I x1 x3 H locs ls hf hW hl
      cases hf
    | succ t ih =>
      intro I x1 x3 H locs ls hf hW hl
      exact wg_X7_digest_6 X hr hlk hK0  ih hf hW hl
  exact key t _ _ _ _ _ _ hf hW hl
set_option maxRecDepth 100000 in
set_option maxHeartbeats 4000000 in
theorem c_X7_digest (l : Launch) (D : zD) (B n : Nat) {F : Nat} {K : zK} {I : zI} {R : zR} {a0 : Nat}  {r : Int64} {I' : zI} (hK0 : (K a0).1 = 17) (hf : f_X7_digest F K I R a0  = some (r, I')) : zM l yX7_digest cX7_digest 4 (some .long) ({ frames := 8, cells := 0, slots := 0, locals := 217 } : Room) D B n K I R [.ref (B + a0)] (zQl D (zOwn B K (B + n)) r B n K I' R) := by
  refine ze_entry (lv0 := [(0, .ref (B + a0))]) (by decide) (by simp [lg_sl, zcat, zcat_i, zcat_r, zcat_l]) (by simp [lv_args, zcat, zcat_i, zcat_r, zcat_l]) (fun p e s m below meth c X hr hlk hin hW ls hl => ?_)
  unfold f_X7_digest at hf
  refine lv_ldc2 X.1 X.2.1 X.2.2.2.1 (X.2.2.2.2.use kcl_X7_308 rfl) dX7_digest_0 ?_
  refine lv_lstore_n (i := 1) (lv' := [(1, .long (17369 : Int64)), (0, .ref (B + a0))]) X.1 X.2.1 dX7_digest_3 rfl hl (by decide) rfl (fun ls hk => ?_)
  replace hl := hk
  refine lv_iconst (v := 0) X.1 X.2.1 dX7_digest_4 (by decide) ?_
  refine lv_istore_n (i := 3) (lv' := [(3, .int (0 : Int32)), (1, .long (17369 : Int64)), (0, .ref (B + a0))]) X.1 X.2.1 dX7_digest_5 rfl hl (by decide) rfl (fun ls hk => ?_)
  replace hl := hk
  exact w_X7_digest_6 X hr hlk hK0 hf hW (lv_sub hl [2, 1, 0] rfl)
end
