/-! LeastPatternsModel.joins(III)Z -/
def g_X7_joins_39 (F : Nat) (K : zK) (R : zR) (a0 : Nat)  (kself : zI → Int32 → Int32 → Int32 → Option (Int32 × zI)) (I : zI) (x1 : Int32) (x2 : Int32) (x3 : Int32) : Option (Int32 × zI) :=
  if (I a0 29) ≤ (0 : Int32) then
    some ((1 : Int32), I)
  else
    zbd (some (zup I a0 29 ((I a0 29) - (1 : Int32)))) fun I2 =>
    zbd (some (R a0 0)) fun o3 =>
    zbd (zdr K o3 1) fun a4 =>
    zbd (zrd K I2 a4 x3) fun v7 =>
    if v7 = (32 : Int32) then
      some ((0 : Int32), I2)
    else
      zbd2 (f_X7_joinsNext F K I2 R a0 x1 x2 x3) fun v9 I10 =>
      if v9 = (0 : Int32) then
        some ((0 : Int32), I10)
      else
        zbd (some (R a0 0)) fun o13 =>
        zbd (zdr K o13 1) fun a14 =>
        zbd (zrd K I10 a14 x3) fun v17 =>
        zbd (zwr K I10 a14 x3 (v17 + (1 : Int32))) fun I18 =>
        kself I18 x1 x2 x3
def f_X7_joins_39 (F : Nat) (K : zK) (R : zR) (a0 : Nat)  : Nat → zI → Int32 → Int32 → Int32 → Option (Int32 × zI)
  | 0, _, _, _, _ => none
  | t + 1, I, x1, x2, x3 => g_X7_joins_39 F K R a0  (f_X7_joins_39 F K R a0  t) I x1 x2 x3
def f_X7_joins (F : Nat) (K : zK) (I : zI) (R : zR) (a0 : Nat) (x1 : Int32) (x2 : Int32) (x3 : Int32) : Option (Int32 × zI) :=
  zbd (some (R a0 5)) fun o19 =>
  zbd (f_X7_counts F K I R a0 x1 o19) fun I20 =>
  zbd (some (R a0 6)) fun o22 =>
  zbd (f_X7_counts F K I20 R a0 x2 o22) fun I23 =>
  zbd (some (R a0 0)) fun o25 =>
  zbd (zdr K o25 1) fun a26 =>
  zbd (zwr K I23 a26 x3 (0 : Int32)) fun I29 =>
  zbd (some (zup I29 a0 29 (0 : Int32))) fun I30 =>
  zbd (f_X7_pushes F K I30 R a0 (0 : Int32) (0 : Int32) (0 : Int32) (0 : Int32) (0 : Int32)) fun I31 =>
  f_X7_joins_39 F K R a0 F I31 x1 x2 x3
section
variable {p : Program} {l : Launch} {e : Env} {s : State} {m : MethodId} {args : Array Value} {below : List Frame} {meth : Method} {c : Code} {D : zD} {B n n0 n' fd ld : Nat} {K K0 K' : zK} {I I' : zI} {R R' : zR} {H : Heap} {locs : List Loc} {ls : Array Slot} {r : Int32}
set_option maxRecDepth 100000 in
set_option maxHeartbeats 4000000 in
theorem wg_X7_joins_39 {F : Nat} {a0 : Nat}  (X : zX p s m c cX7_joins 4 RX7 D) (hr : meth.sig.returnType = some .boolean) (hlk : meth.locks = false) (hK0 : (K a0).1 = 17)  {kself : zI → Int32 → Int32 → Int32 → Option (Int32 × zI)} (hkself : ∀ (I : zI) (x1 : Int32) (x2 : Int32) (x3 : Int32) (H : Heap) (locs : List Loc) (ls : Array Slot), kself I x1 x2 x3 = some (r, I') → zS (zOwn B K (B + n)) D B n K I R s.heap H locs → lv_has ls 4 [(0, .ref (B + a0)), (1, .int x1), (2, .int x2), (3, .int x3)] → W p l e ({ frames := 5, cells := 0, slots := 0, locals := 153 } : Room) s m args below meth c H locs 0 0 (MQ below (zQi D (zOwn B K (B + n)) r B n K I' R) args s 0 0 (zOwn B K (B + n))) (F0 m 39 ls [])) {x1 : Int32} {x2 : Int32} {x3 : Int32} (hf : g_X7_joins_39 F K R a0  kself I x1 x2 x3 = some (r, I')) (hW : zS (zOwn B K (B + n)) D B n K I R s.heap H locs) (hl : lv_has ls 4 [(0, .ref (B + a0)), (1, .int x1), (2, .int x2), (3, .int x3)]) : W p l e ({ frames := 5, cells := 0, slots := 0, locals := 153 } : Room) s m args below meth c H locs 0 0 (MQ below (zQi D (zOwn B K (B + n)) r B n K I' R) args s 0 0 (zOwn B K (B + n))) (F0 m 39 ls []) := by
  unfold g_X7_joins_39 at hf
  refine lv_aload_n X.1 X.2.1 dX7_joins_39 rfl (lv_at hl 0 rfl) ?_
  refine ze_getI X 7 29 228 (RX7, TX7, 39) rfl hW hK0 rfl (by decide) kfl_X7_228 dX7_joins_40 ?_
  refine lv_if_le (tgt := 92) X.1 X.2.1 dX7_joins_43 (by decide) (fun c1 => ?_) (fun c1 => ?_)
  · replace hf := zif_pos c1 hf
    refine lv_iconst (v := 1) X.1 X.2.1 dX7_joins_92 (by decide) ?_
    obtain ⟨rfl, rfl⟩ := zi2 hf
    exact ze_retZ X hr hlk (by decide) hW (Nat.le_refl _) (Nat.le_refl _) dX7_joins_93
  · replace hf := zif_neg c1 hf
    refine lv_aload_n X.1 X.2.1 dX7_joins_46 rfl (lv_at hl 0 rfl) ?_
    refine lv_dup X.1 X.2.1 dX7_joins_47 rfl ?_
    refine ze_getI X 7 29 228 (RX7, TX7, 39) rfl hW hK0 rfl (by decide) kfl_X7_228 dX7_joins_48 ?_
    refine lv_iconst (v := 1) X.1 X.2.1 dX7_joins_51 (by decide) ?_
    refine lv_isub X.1 X.2.1 dX7_joins_52 ?_
    refine ze_putI X 7 29 228 (RX7, TX7, 39) rfl hf hW hK0 rfl (by decide) kfl_X7_228 rfl (by decide +kernel) dX7_joins_53 (fun I2 H locs hg hV => ?_)
    replace hf := hg
    replace hW := hV
    refine lv_aload_n X.1 X.2.1 dX7_joins_56 rfl (lv_at hl 0 rfl) ?_
    refine ze_gtR X 7 0 7 (RX7, TX7, 39) rfl hf hW hK0 rfl (by decide) kfl_X7_7 dX7_joins_57 (fun o3 hg => ?_)
    replace hf := hg
    refine lv_iload_n X.1 X.2.1 dX7_joins_60 rfl (lv_at hl 3 rfl) ?_
    obtain ⟨a4, rfl, k6, hg⟩ := zh_dr hf
    replace hf := hg
    refine ze_iald X hf hW k6 dX7_joins_61 (fun v7 hg => ?_)
    replace hf := hg
    refine lv_bipush (v := 32) X.1 X.2.1 dX7_joins_62 (by decide) ?_
    refine lv_icmp_eq (tgt := 77) X.1 X.2.1 dX7_joins_64 (by decide) (fun c8 => ?_) (fun c8 => ?_)
    · replace hf := zif_pos c8 hf
      refine lv_iconst (v := 0) X.1 X.2.1 dX7_joins_77 (by decide) ?_
      obtain ⟨rfl, rfl⟩ := zi2 hf
      exact ze_retZ X hr hlk (by decide) hW (Nat.le_refl _) (Nat.le_refl _) dX7_joins_78
    · replace hf := zif_neg c8 hf
      refine lv_aload_n X.1 X.2.1 dX7_joins_67 rfl (lv_at hl 0 rfl) ?_
      refine lv_iload_n X.1 X.2.1 dX7_joins_68 rfl (lv_at hl 1 rfl) ?_
      refine lv_iload_n X.1 X.2.1 dX7_joins_69 rfl (lv_at hl 2 rfl) ?_
      refine lv_iload_n X.1 X.2.1 dX7_joins_70 rfl (lv_at hl 3 rfl) ?_
      obtain ⟨v9, I10, h11, hg⟩ := zh_bd2 hf
      replace hf := hg
      refine ze_aftI0 (ze_runV (As := [.int x1, .int x2, .int x3]) (rest := []) X 7 239 (c_X7_joinsNext l D B n hK0 h11) vX7_joinsNext kml_X7_239 hW hK0 rfl rfl ⟨by decide, by decide⟩ rfl hl.1 rfl (Nat.le_of_ble_eq_true rfl) ⟨Nat.le_refl _, Nat.le_refl _⟩ dX7_joins_71) hW (fun H locs hV => ?_)
      replace hW := hV
      refine lv_if_ne (tgt := 79) X.1 X.2.1 dX7_joins_74 (by decide) (fun c12 => ?_) (fun c12 => ?_)
      · replace hf := zif_neg c12 hf
        refine lv_aload_n X.1 X.2.1 dX7_joins_79 rfl (lv_at hl 0 rfl) ?_
        refine ze_gtR X 7 0 7 (RX7, TX7, 39) rfl hf hW hK0 rfl (by decide) kfl_X7_7 dX7_joins_80 (fun o13 hg => ?_)
        replace hf := hg
        refine lv_iload_n X.1 X.2.1 dX7_joins_83 rfl (lv_at hl 3 rfl) ?_
        refine lv_dup2_11 X.1 X.2.1 dX7_joins_84 rfl (zcat _ _) ?_
        obtain ⟨a14, rfl, k16, hg⟩ := zh_dr hf
        replace hf := hg
        refine ze_iald X hf hW k16 dX7_joins_85 (fun v17 hg => ?_)
        replace hf := hg
        refine lv_iconst (v := 1) X.1 X.2.1 dX7_joins_86 (by decide) ?_
        refine lv_iadd X.1 X.2.1 dX7_joins_87 ?_
        refine ze_iast X hf hW k16 dX7_joins_88 (fun I18 H locs hg hV => ?_)
        replace hf := hg
        replace hW := hV
        refine lv_goto (tgt := 39) X.1 X.2.1 dX7_joins_89 (by decide) ?_
        exact hkself _ _ _ _ _ _ _ hf hW hl
      · replace hf := zif_pos c12 hf
        refine lv_iconst (v := 0) X.1 X.2.1 dX7_joins_77 (by decide) ?_
        obtain ⟨rfl, rfl⟩ := zi2 hf
        exact ze_retZ X hr hlk (by decide) hW (Nat.le_refl _) (Nat.le_refl _) dX7_joins_78
set_option maxRecDepth 100000 in
set_option maxHeartbeats 4000000 in
theorem w_X7_joins_39 {F : Nat} {a0 : Nat}  (X : zX p s m c cX7_joins 4 RX7 D) (hr : meth.sig.returnType = some .boolean) (hlk : meth.locks = false) (hK0 : (K a0).1 = 17)  {t : Nat} {x1 : Int32} {x2 : Int32} {x3 : Int32} (hf : f_X7_joins_39 F K R a0  t I x1 x2 x3 = some (r, I')) (hW : zS (zOwn B K (B + n)) D B n K I R s.heap H locs) (hl : lv_has ls 4 [(0, .ref (B + a0)), (1, .int x1), (2, .int x2), (3, .int x3)]) : W p l e ({ frames := 5, cells := 0, slots := 0, locals := 153 } : Room) s m args below meth c H locs 0 0 (MQ below (zQi D (zOwn B K (B + n)) r B n K I' R) args s 0 0 (zOwn B K (B + n))) (F0 m 39 ls []) := by
  have key : ∀ t : Nat, ∀ (I : zI) (x1 : Int32) (x2 : Int32) (x3 : Int32) (H : Heap) (locs : List Loc) (ls : Array Slot), f_X7_joins_39 F K R a0  t I x1 x2 x3 = some (r, I') → zS (zOwn B K (B + n)) D B n K I R s.heap H locs → lv_has ls 4 [(0, .ref (B + a0)), (1, .int x1), (2, .int x2), (3, .int x3)] → W p l e ({ frames := 5, cells := 0, slots := 0, locals := 153 } : Room) s m args below meth c H locs 0 0 (MQ below (zQi D (zOwn B K (B + n)) r B n K I' R) args s 0 0 (zOwn B K (B + n))) (F0 m 39 ls []) := by
    intro t
    induction t with
    | zero =>
      intro I x1 x2 x3 H locs ls hf hW hl
      cases hf
    | succ t ih =>
      intro I x1 x2 x3 H locs ls hf hW hl
      exact wg_X7_joins_39 X hr hlk hK0  ih hf hW hl
  exact key t _ _ _ _ _ _ _ hf hW hl
set_option maxRecDepth 100000 in
set_option maxHeartbeats 4000000 in
theorem c_X7_joins (l : Launch) (D : zD) (B n : Nat) {F : Nat} {K : zK} {I : zI} {R : zR} {a0 : Nat} {x1 : Int32} {x2 : Int32} {x3 : Int32} {r : Int32} {I' : zI} (hK0 : (K a0).1 = 17) (hf : f_X7_joins F K I R a0 x1 x2 x3 = some (r, I')) : zM l yX7_joins cX7_joins 4 (some .boolean) ({ frames := 5, cells := 0, slots := 0, locals := 153 } : Room) D B n K I R [.ref (B + a0), .int x1, .int x2, .int x3] (zQi D (zOwn B K (B + n)) r B n K I' R) := by
  refine ze_entry (lv0 := [(0, .ref (B + a0)), (1, .int x1), (2, .int x2), (3, .int x3)]) (by decide) (by simp [lg_sl, zcat, zcat_i, zcat_r, zcat_l]) (by simp [lv_args, zcat, zcat_i, zcat_r, zcat_l]) (fun p e s m below meth c X hr hlk hin hW ls hl => ?_)
  unfold f_X7_joins at hf
  refine lv_aload_n X.1 X.2.1 dX7_joins_0 rfl (lv_at hl 0 rfl) ?_
  refine lv_iload_n X.1 X.2.1 dX7_joins_1 rfl (lv_at hl 1 rfl) ?_
  refine lv_aload_n X.1 X.2.1 dX7_joins_2 rfl (lv_at hl 0 rfl) ?_
  refine ze_gtR X 7 5 20 (RX7, TX7, 39) rfl hf hW hK0 rfl (by decide) kfl_X7_20 dX7_joins_3 (fun o19 hg => ?_)
  replace hf := hg
  obtain ⟨I20, h21, hg⟩ := zh_bd hf
  replace hf := hg
  refine ze_aftV0 (ze_runV (As := [.int x1, zrf B o19]) (rest := []) X 7 115 (c_X7_counts l D B n hK0 h21) vX7_counts kml_X7_115 hW hK0 rfl rfl ⟨by decide, by decide⟩ rfl hl.1 rfl (Nat.le_of_ble_eq_true rfl) ⟨Nat.le_refl _, Nat.le_refl _⟩ dX7_joins_6) hW (fun H locs hV => ?_)
  replace hW := hV
  refine lv_aload_n X.1 X.2.1 dX7_joins_9 rfl (lv_at hl 0 rfl) ?_
  refine lv_iload_n X.1 X.2.1 dX7_joins_10 rfl (lv_at hl 2 rfl) ?_
  refine lv_aload_n X.1 X.2.1 dX7_joins_11 rfl (lv_at hl 0 rfl) ?_
  refine ze_gtR X 7 6 23 (RX7, TX7, 39) rfl hf hW hK0 rfl (by decide) kfl_X7_23 dX7_joins_12 (fun o22 hg => ?_)
  replace hf := hg
  obtain ⟨I23, h24, hg⟩ := zh_bd hf
  replace hf := hg
  refine ze_aftV0 (ze_runV (As := [.int x2, zrf B o22]) (rest := []) X 7 115 (c_X7_counts l D B n hK0 h24) vX7_counts kml_X7_115 hW hK0 rfl rfl ⟨by decide, by decide⟩ rfl hl.1 rfl (Nat.le_of_ble_eq_true rfl) ⟨Nat.le_refl _, Nat.le_refl _⟩ dX7_joins_15) hW (fun H locs hV => ?_)
  replace hW := hV
  refine lv_aload_n X.1 X.2.1 dX7_joins_18 rfl (lv_at hl 0 rfl) ?_
  refine ze_gtR X 7 0 7 (RX7, TX7, 39) rfl hf hW hK0 rfl (by decide) kfl_X7_7 dX7_joins_19 (fun o25 hg => ?_)
  replace hf := hg
  refine lv_iload_n X.1 X.2.1 dX7_joins_22 rfl (lv_at hl 3 rfl) ?_
  refine lv_iconst (v := 0) X.1 X.2.1 dX7_joins_23 (by decide) ?_
  obtain ⟨a26, rfl, k28, hg⟩ := zh_dr hf
  replace hf := hg
  refine ze_iast X hf hW k28 dX7_joins_24 (fun I29 H locs hg hV => ?_)
  replace hf := hg
  replace hW := hV
  refine lv_aload_n X.1 X.2.1 dX7_joins_25 rfl (lv_at hl 0 rfl) ?_
  refine lv_iconst (v := 0) X.1 X.2.1 dX7_joins_26 (by decide) ?_
  refine ze_putI X 7 29 228 (RX7, TX7, 39) rfl hf hW hK0 rfl (by decide) kfl_X7_228 rfl (by decide +kernel) dX7_joins_27 (fun I30 H locs hg hV => ?_)
  replace hf := hg
  replace hW := hV
  refine lv_aload_n X.1 X.2.1 dX7_joins_30 rfl (lv_at hl 0 rfl) ?_
  refine lv_iconst (v := 0) X.1 X.2.1 dX7_joins_31 (by decide) ?_
  refine lv_iconst (v := 0) X.1 X.2.1 dX7_joins_32 (by decide) ?_
  refine lv_iconst (v := 0) X.1 X.2.1 dX7_joins_33 (by decide) ?_
  refine lv_iconst (v := 0) X.1 X.2.1 dX7_joins_34 (by decide) ?_
  refine lv_iconst (v := 0) X.1 X.2.1 dX7_joins_35 (by decide) ?_
  obtain ⟨I31, h32, hg⟩ := zh_bd hf
  replace hf := hg
  refine ze_aftV0 (ze_runV (As := [.int (0 : Int32), .int (0 : Int32), .int (0 : Int32), .int (0 : Int32), .int (0 : Int32)]) (rest := []) X 7 231 (c_X7_pushes l D B n hK0 h32) vX7_pushes kml_X7_231 hW hK0 rfl rfl ⟨by decide, by decide⟩ rfl hl.1 rfl (Nat.le_of_ble_eq_true rfl) ⟨Nat.le_refl _, Nat.le_refl _⟩ dX7_joins_36) hW (fun H locs hV => ?_)
  replace hW := hV
  exact w_X7_joins_39 X hr hlk hK0 hf hW hl
end

/-! LeastPatternsModel.wrong(IIZ)I -/
def f_X7_wrong_38 (F : Nat) (K : zK) (I : zI) (R : zR) (a0 : Nat)   : Option (Int32) :=
  some (-2 : Int32)
def f_X7_wrong_18 (F : Nat) (K : zK) (I : zI) (R : zR) (a0 : Nat)   : Option (Int32) :=
  some (-1 : Int32)
def f_X7_wrong (F : Nat) (K : zK) (I : zI) (R : zR) (a0 : Nat) (x1 : Int32) (x2 : Int32) (x3 : Int32) : Option (Int32) :=
  if x3 = (0 : Int32) then
    f_X7_wrong_18 F K I R a0
  else
    zbd (f_X7_isRegister F K I R x1) fun v2 =>
    if v2 = (0 : Int32) then
      f_X7_wrong_18 F K I R a0
    else
      zbd (f_X7_isRegister F K I R x2) fun v5 =>
      if v5 = (0 : Int32) then
        f_X7_wrong_18 F K I R a0
      else
        zbd (f_X7_isEmpty F K I R a0 x1) fun v8 =>
        if v8 = (0 : Int32) then
          zbd (f_X7_isEmpty F K I R a0 x2) fun v11 =>
          if v11 = (0 : Int32) then
            some (0 : Int32)
          else
            f_X7_wrong_38 F K I R a0
        else
          f_X7_wrong_38 F K I R a0
section
variable {p : Program} {l : Launch} {e : Env} {s : State} {m : MethodId} {args : Array Value} {below : List Frame} {meth : Method} {c : Code} {D : zD} {B n n0 n' fd ld : Nat} {K K0 K' : zK} {I I' : zI} {R R' : zR} {H : Heap} {locs : List Loc} {ls : Array Slot} {r : Int32}
set_option maxRecDepth 100000 in
set_option maxHeartbeats 4000000 in
theorem w_X7_wrong_38 {F : Nat} {a0 : Nat}  (X : zX p s m c cX7_wrong 4 RX7 D) (hr : meth.sig.returnType = some .int) (hlk : meth.locks = false) (hK0 : (K a0).1 = 17)   (hf : f_X7_wrong_38 F K I R a0   = some r) (hW : zS (zOwn B K (B + n)) D B n K I R s.heap H locs) (hl : lv_has ls 4 [(0, .ref (B + a0))]) : W p l e ({ frames := 3, cells := 0, slots := 0, locals := 82 } : Room) s m args below meth c H locs 0 0 (MQ below (zQi D (zOwn B K (B + n)) r B n K I R) args s 0 0 (zOwn B K (B + n))) (F0 m 38 ls []) := by
  unfold f_X7_wrong_38 at hf
  refine lv_bipush (v := -2) X.1 X.2.1 dX7_wrong_38 (by decide) ?_
  refine lv_goto (tgt := 44) X.1 X.2.1 dX7_wrong_40 (by decide) ?_
  obtain rfl := zi1 hf
  exact ze_retI X hr hlk hW (Nat.le_refl _) (Nat.le_refl _) dX7_wrong_44
set_option maxRecDepth 100000 in
set_option maxHeartbeats 4000000 in
theorem w_X7_wrong_18 {F : Nat} {a0 : Nat}  (X : zX p s m c cX7_wrong 4 RX7 D) (hr : meth.sig.returnType = some .int) (hlk : meth.locks = false) (hK0 : (K a0).1 = 17)   (hf : f_X7_wrong_18 F K I R a0   = some r) (hW : zS (zOwn B K (B + n)) D B n K I R s.heap H locs) (hl : lv_has ls 4 [(0, .ref (B + a0))]) : W p l e ({ frames := 3, cells := 0, slots := 0, locals := 82 } : Room) s m args below meth c H locs 0 0 (MQ below (zQi D (zOwn B K (B + n)) r B n K I R) args s 0 0 (zOwn B K (B + n))) (F0 m 18 ls []) := by
  unfold f_X7_wrong_18 at hf
  refine lv_iconst (v := -1) X.1 X.2.1 dX7_wrong_18 (by decide) ?_
  refine lv_goto (tgt := 44) X.1 X.2.1 dX7_wrong_19 (by decide) ?_
  obtain rfl := zi1 hf
  exact ze_retI X hr hlk hW (Nat.le_refl _) (Nat.le_refl _) dX7_wrong_44
set_option maxRecDepth 100000 in
set_option maxHeartbeats 4000000 in
theorem c_X7_wrong (l : Launch) (D : zD) (B n : Nat) {F : Nat} {K : zK} {I : zI} {R : zR} {a0 : Nat} {x1 : Int32} {x2 : Int32} {x3 : Int32} {r : Int32} (hK0 : (K a0).1 = 17) (hf : f_X7_wrong F K I R a0 x1 x2 x3 = some r) : zM l yX7_wrong cX7_wrong 4 (some .int) ({ frames := 3, cells := 0, slots := 0, locals := 82 } : Room) D B n K I R [.ref (B + a0), .int x1, .int x2, .int x3] (zQi D (zOwn B K (B + n)) r B n K I R) := by
  refine ze_entry (lv0 := [(0, .ref (B + a0)), (1, .int x1), (2, .int x2), (3, .int x3)]) (by decide) (by simp [lg_sl, zcat, zcat_i, zcat_r, zcat_l]) (by simp [lv_args, zcat, zcat_i, zcat_r, zcat_l]) (fun p e s m below meth c X hr hlk hin hW ls hl => ?_)
  unfold f_X7_wrong at hf
  refine lv_iload_n X.1 X.2.1 dX7_wrong_0 rfl (lv_at hl 3 rfl) ?_
  refine lv_if_eq (tgt := 18) X.1 X.2.1 dX7_wrong_1 (by decide) (fun c1 => ?_) (fun c1 => ?_)
  · replace hf := zif_pos c1 hf
    exact w_X7_wrong_18 X hr hlk hK0 hf hW (lv_sub hl [0] rfl)
  · replace hf := zif_neg c1 hf
    refine lv_iload_n X.1 X.2.1 dX7_wrong_4 rfl (lv_at hl 1 rfl) ?_
    obtain ⟨v2, h3, hg⟩ := zh_bd hf
    replace hf := hg
    refine ze_aftI0 (ze_runS (As := [.int x1]) (rest := []) X 182 (c_X7_isRegister l D B n h3) vX7_isRegister kml_X7_182 hW ⟨by decide, by decide⟩ rfl hl.1 rfl (Nat.le_of_ble_eq_true rfl) ⟨Nat.le_refl _, Nat.le_refl _⟩ dX7_wrong_5) hW (fun H locs hV => ?_)
    replace hW := hV
    refine lv_if_eq (tgt := 18) X.1 X.2.1 dX7_wrong_8 (by decide) (fun c4 => ?_) (fun c4 => ?_)
    · replace hf := zif_pos c4 hf
      exact w_X7_wrong_18 X hr hlk hK0 hf hW (lv_sub hl [0] rfl)
    · replace hf := zif_neg c4 hf
      refine lv_iload_n X.1 X.2.1 dX7_wrong_11 rfl (lv_at hl 2 rfl) ?_
      obtain ⟨v5, h6, hg⟩ := zh_bd hf
      replace hf := hg
      refine ze_aftI0 (ze_runS (As := [.int x2]) (rest := []) X 182 (c_X7_isRegister l D B n h6) vX7_isRegister kml_X7_182 hW ⟨by decide, by decide⟩ rfl hl.1 rfl (Nat.le_of_ble_eq_true rfl) ⟨Nat.le_refl _, Nat.le_refl _⟩ dX7_wrong_12) hW (fun H locs hV => ?_)
      replace hW := hV
      refine lv_if_ne (tgt := 22) X.1 X.2.1 dX7_wrong_15 (by decide) (fun c7 => ?_) (fun c7 => ?_)
      · replace hf := zif_neg c7 hf
        refine lv_aload_n X.1 X.2.1 dX7_wrong_22 rfl (lv_at hl 0 rfl) ?_
        refine lv_iload_n X.1 X.2.1 dX7_wrong_23 rfl (lv_at hl 1 rfl) ?_
        obtain ⟨v8, h9, hg⟩ := zh_bd hf
        replace hf := hg
        refine ze_aftI0 (ze_runV (As := [.int x1]) (rest := []) X 7 204 (c_X7_isEmpty l D B n hK0 h9) vX7_isEmpty kml_X7_204 hW hK0 rfl rfl ⟨by decide, by decide⟩ rfl hl.1 rfl (Nat.le_of_ble_eq_true rfl) ⟨Nat.le_refl _, Nat.le_refl _⟩ dX7_wrong_24) hW (fun H locs hV => ?_)
        replace hW := hV
        refine lv_if_ne (tgt := 38) X.1 X.2.1 dX7_wrong_27 (by decide) (fun c10 => ?_) (fun c10 => ?_)
        · replace hf := zif_neg c10 hf
          exact w_X7_wrong_38 X hr hlk hK0 hf hW (lv_sub hl [0] rfl)
        · replace hf := zif_pos c10 hf
          refine lv_aload_n X.1 X.2.1 dX7_wrong_30 rfl (lv_at hl 0 rfl) ?_
          refine lv_iload_n X.1 X.2.1 dX7_wrong_31 rfl (lv_at hl 2 rfl) ?_
          obtain ⟨v11, h12, hg⟩ := zh_bd hf
          replace hf := hg
          refine ze_aftI0 (ze_runV (As := [.int x2]) (rest := []) X 7 204 (c_X7_isEmpty l D B n hK0 h12) vX7_isEmpty kml_X7_204 hW hK0 rfl rfl ⟨by decide, by decide⟩ rfl hl.1 rfl (Nat.le_of_ble_eq_true rfl) ⟨Nat.le_refl _, Nat.le_refl _⟩ dX7_wrong_32) hW (fun H locs hV => ?_)
          replace hW := hV
          refine lv_if_eq (tgt := 43) X.1 X.2.1 dX7_wrong_35 (by decide) (fun c13 => ?_) (fun c13 => ?_)
          · replace hf := zif_pos c13 hf
            refine lv_iconst (v := 0) X.1 X.2.1 dX7_wrong_43 (by decide) ?_
            obtain rfl := zi1 hf
            exact ze_retI X hr hlk hW (Nat.le_refl _) (Nat.le_refl _) dX7_wrong_44
          · replace hf := zif_neg c13 hf
            exact w_X7_wrong_38 X hr hlk hK0 hf hW (lv_sub hl [0] rfl)
      · replace hf := zif_pos c7 hf
        exact w_X7_wrong_18 X hr hlk hK0 hf hW (lv_sub hl [0] rfl)
end

/-! LeastPatternsModel.join(III)I -/
def f_X7_join (F : Nat) (K : zK) (I : zI) (R : zR) (a0 : Nat) (x1 : Int32) (x2 : Int32) (x3 : Int32) : Option (Int32 × zI) :=
  zbd (f_X7_isRegister F K I R x3) fun v1 =>
  zbd (f_X7_wrong F K I R a0 x1 x2 v1) fun v3 =>
  if v3 = (0 : Int32) then
    zbd (some (zup I a0 16 (0 : Int32))) fun I6 =>
    zbd2 (f_X7_joins F K I6 R a0 ((97 : Int32) * x1) ((97 : Int32) * x2) (5460 : Int32)) fun v7 I8 =>
    if v7 = (0 : Int32) then
      some ((-3 : Int32), I8)
    else
      zbd (f_X7_records F K I8 R a0) fun I11 =>
      zbd2 (f_X7_puts F K I11 R a0 (5460 : Int32) x3) fun v13 I14 =>
      some (v13, I14)
  else
    some (v3, I)
section
variable {p : Program} {l : Launch} {e : Env} {s : State} {m : MethodId} {args : Array Value} {below : List Frame} {meth : Method} {c : Code} {D : zD} {B n n0 n' fd ld : Nat} {K K0 K' : zK} {I I' : zI} {R R' : zR} {H : Heap} {locs : List Loc} {ls : Array Slot} {r : Int32}
set_option maxRecDepth 100000 in
set_option maxHeartbeats 4000000 in
theorem c_X7_join (l : Launch) (D : zD) (B n : Nat) {F : Nat} {K : zK} {I : zI} {R : zR} {a0 : Nat} {x1 : Int32} {x2 : Int32} {x3 : Int32} {r : Int32} {I' : zI} (hK0 : (K a0).1 = 17) (hf : f_X7_join F K I R a0 x1 x2 x3 = some (r, I')) : zM l yX7_join cX7_join 5 (some .int) ({ frames := 6, cells := 0, slots := 0, locals := 176 } : Room) D B n K I R [.ref (B + a0), .int x1, .int x2, .int x3] (zQi D (zOwn B K (B + n)) r B n K I' R) := by
  refine ze_entry (lv0 := [(0, .ref (B + a0)), (1, .int x1), (2, .int x2), (3, .int x3)]) (by decide) (by simp [lg_sl, zcat, zcat_i, zcat_r, zcat_l]) (by simp [lv_args, zcat, zcat_i, zcat_r, zcat_l]) (fun p e s m below meth c X hr hlk hin hW ls hl => ?_)
  unfold f_X7_join at hf
  refine lv_aload_n X.1 X.2.1 dX7_join_0 rfl (lv_at hl 0 rfl) ?_
  refine lv_iload_n X.1 X.2.1 dX7_join_1 rfl (lv_at hl 1 rfl) ?_
  refine lv_iload_n X.1 X.2.1 dX7_join_2 rfl (lv_at hl 2 rfl) ?_
  refine lv_iload_n X.1 X.2.1 dX7_join_3 rfl (lv_at hl 3 rfl) ?_
  obtain ⟨v1, h2, hg⟩ := zh_bd hf
  replace hf := hg
  refine ze_aftI0 (ze_runS (As := [.int x3]) (rest := [.int x2, .int x1, .ref (B + a0)]) X 182 (c_X7_isRegister l D B n h2) vX7_isRegister kml_X7_182 hW ⟨by decide, by decide⟩ rfl hl.1 rfl (Nat.le_of_ble_eq_true rfl) ⟨Nat.le_refl _, Nat.le_refl _⟩ dX7_join_4) hW (fun H locs hV => ?_)
  replace hW := hV
  obtain ⟨v3, h4, hg⟩ := zh_bd hf
  replace hf := hg
  refine ze_aftI0 (ze_runV (As := [.int x1, .int x2, .int v1]) (rest := []) X 7 254 (c_X7_wrong l D B n hK0 h4) vX7_wrong kml_X7_254 hW hK0 rfl rfl ⟨by decide, by decide⟩ rfl hl.1 rfl (Nat.le_of_ble_eq_true rfl) ⟨Nat.le_refl _, Nat.le_refl _⟩ dX7_join_7) hW (fun H locs hV => ?_)
  replace hW := hV
  refine lv_istore (lv' := [(4, .int v3), (0, .ref (B + a0)), (1, .int x1), (2, .int x2), (3, .int x3)]) X.1 X.2.1 dX7_join_10 hl (by decide) rfl (fun ls hk => ?_)
  replace hl := hk
  refine lv_iload X.1 X.2.1 dX7_join_12 (lv_at hl 0 rfl) ?_
  refine lv_if_eq (tgt := 20) X.1 X.2.1 dX7_join_14 (by decide) (fun c5 => ?_) (fun c5 => ?_)
  · replace hf := zif_pos c5 hf
    refine lv_aload_n X.1 X.2.1 dX7_join_20 rfl (lv_at hl 1 rfl) ?_
    refine lv_iconst (v := 0) X.1 X.2.1 dX7_join_21 (by decide) ?_
    refine ze_putI X 7 16 221 (RX7, TX7, 39) rfl hf hW hK0 rfl (by decide) kfl_X7_221 rfl (by decide +kernel) dX7_join_22 (fun I6 H locs hg hV => ?_)
    replace hf := hg
    replace hW := hV
    refine lv_aload_n X.1 X.2.1 dX7_join_25 rfl (lv_at hl 1 rfl) ?_
    refine lv_bipush (v := 97) X.1 X.2.1 dX7_join_26 (by decide) ?_
    refine lv_iload_n X.1 X.2.1 dX7_join_28 rfl (lv_at hl 2 rfl) ?_
    refine lv_imul X.1 X.2.1 dX7_join_29 ?_
    refine lv_bipush (v := 97) X.1 X.2.1 dX7_join_30 (by decide) ?_
    refine lv_iload_n X.1 X.2.1 dX7_join_32 rfl (lv_at hl 3 rfl) ?_
    refine lv_imul X.1 X.2.1 dX7_join_33 ?_
    refine lv_sipush (v := 5460) X.1 X.2.1 dX7_join_34 (by decide) ?_
    obtain ⟨v7, I8, h9, hg⟩ := zh_bd2 hf
    replace hf := hg
    refine ze_aftI0 (ze_runV (As := [.int ((97 : Int32) * x1), .int ((97 : Int32) * x2), .int (5460 : Int32)]) (rest := []) X 7 258 (c_X7_joins l D B n hK0 h9) vX7_joins kml_X7_258 hW hK0 rfl rfl ⟨by decide, by decide⟩ rfl hl.1 rfl (Nat.le_of_ble_eq_true rfl) ⟨Nat.le_refl _, Nat.le_refl _⟩ dX7_join_37) hW (fun H locs hV => ?_)
    replace hW := hV
    refine lv_if_ne (tgt := 46) X.1 X.2.1 dX7_join_40 (by decide) (fun c10 => ?_) (fun c10 => ?_)
    · replace hf := zif_neg c10 hf
      refine lv_aload_n X.1 X.2.1 dX7_join_46 rfl (lv_at hl 1 rfl) ?_
      obtain ⟨I11, h12, hg⟩ := zh_bd hf
      replace hf := hg
      refine ze_aftV0 (ze_runV (As := []) (rest := []) X 7 198 (c_X7_records l D B n hK0 h12) vX7_records kml_X7_198 hW hK0 rfl rfl ⟨by decide, by decide⟩ rfl hl.1 rfl (Nat.le_of_ble_eq_true rfl) ⟨Nat.le_refl _, Nat.le_refl _⟩ dX7_join_47) hW (fun H locs hV => ?_)
      replace hW := hV
      refine lv_aload_n X.1 X.2.1 dX7_join_50 rfl (lv_at hl 1 rfl) ?_
      refine lv_sipush (v := 5460) X.1 X.2.1 dX7_join_51 (by decide) ?_
      refine lv_iload_n X.1 X.2.1 dX7_join_54 rfl (lv_at hl 4 rfl) ?_
      obtain ⟨v13, I14, h15, hg⟩ := zh_bd2 hf
      replace hf := hg
      refine ze_aftI0 (ze_runV (As := [.int (5460 : Int32), .int x3]) (rest := []) X 7 201 (c_X7_puts l D B n hK0 h15) vX7_puts kml_X7_201 hW hK0 rfl rfl ⟨by decide, by decide⟩ rfl hl.1 rfl (Nat.le_of_ble_eq_true rfl) ⟨Nat.le_refl _, Nat.le_refl _⟩ dX7_join_55) hW (fun H locs hV => ?_)
      replace hW := hV
      obtain ⟨rfl, rfl⟩ := zi2 hf
      exact ze_retI X hr hlk hW (Nat.le_refl _) (Nat.le_refl _) dX7_join_58
    · replace hf := zif_pos c10 hf
      refine lv_bipush (v := -3) X.1 X.2.1 dX7_join_43 (by decide) ?_
      obtain ⟨rfl, rfl⟩ := zi2 hf
      exact ze_retI X hr hlk hW (Nat.le_refl _) (Nat.le_refl _) dX7_join_45
  · replace hf := zif_neg c5 hf
    refine lv_iload X.1 X.2.1 dX7_join_17 (lv_at hl 0 rfl) ?_
    obtain ⟨rfl, rfl⟩ := zi2 hf
    exact ze_retI X hr hlk hW (Nat.le_refl _) (Nat.le_refl _) dX7_join_19
end

/-! LeastPatternsModel.joinAll(II)I -/
def f_X7_joinAll_194 (F : Nat) (K : zK) (R : zR) (a0 : Nat) (k105 : zI → Int32 → Int32 → Int32 → Option (Int32 × zI)) (I : zI) (x1 : Int32) (x2 : Int32) (x5 : Int32) : Option (Int32 × zI) :=
  k105 I x1 x2 (x5 + (1 : Int32))
def f_X7_joinAll_188 (F : Nat) (K : zK) (R : zR) (a0 : Nat) (k105 : zI → Int32 → Int32 → Int32 → Option (Int32 × zI)) (I : zI) (x1 : Int32) (x2 : Int32) (x5 : Int32) (s0 : Option Nat) (s1 : Int32) : Option (Int32 × zI) :=
  zbd (zdr K s0 17) fun a1 =>
  zbd (f_X7_copies F K I R a1 s1 (5557 : Int32)) fun I4 =>
  f_X7_joinAll_194 F K R a0 k105 I4 x1 x2 x5
def f_X7_joinAll_171 (F : Nat) (K : zK) (R : zR) (a0 : Nat) (k105 : zI → Int32 → Int32 → Int32 → Option (Int32 × zI)) (I : zI) (x1 : Int32) (x2 : Int32) (x5 : Int32) (x6 : Int32) : Option (Int32 × zI) :=
  if x6 = (0 : Int32) then
    f_X7_joinAll_188 F K R a0 k105 I x1 x2 x5 (some a0) (5460 : Int32)
  else
    f_X7_joinAll_188 F K R a0 k105 I x1 x2 x5 (some a0) ((97 : Int32) * x5)
def f_X7_joinAll_143 (F : Nat) (K : zK) (R : zR) (a0 : Nat) (k105 : zI → Int32 → Int32 → Int32 → Option (Int32 × zI)) (I : zI) (x1 : Int32) (x2 : Int32) (x5 : Int32) (s0 : Int32) : Option (Int32 × zI) :=
  if s0 = (0 : Int32) then
    zbd2 (f_X7_joins F K I R a0 (5557 : Int32) ((97 : Int32) * x5) (5460 : Int32)) fun v8 I9 =>
    if v8 = (0 : Int32) then
      some ((-3 : Int32), I9)
    else
      f_X7_joinAll_171 F K R a0 k105 I9 x1 x2 x5 s0
  else
    f_X7_joinAll_171 F K R a0 k105 I x1 x2 x5 s0
def g_X7_joinAll_105 (F : Nat) (K : zK) (R : zR) (a0 : Nat)  (kself : zI → Int32 → Int32 → Int32 → Option (Int32 × zI)) (I : zI) (x1 : Int32) (x2 : Int32) (x5 : Int32) : Option (Int32 × zI) :=
  if (8 : Int32) ≤ x5 then
    zbd (f_X7_records F K I R a0) fun I13 =>
    zbd2 (f_X7_puts F K I13 R a0 (5557 : Int32) x2) fun v15 I16 =>
    some (v15, I16)
  else
    if ((x1 >>> (x5 &&& 31)) &&& (1 : Int32)) = (1 : Int32) then
      zbd (some (zup I a0 16 (0 : Int32))) fun I19 =>
      zbd (some (R a0 0)) fun o20 =>
      zbd (zdr K o20 1) fun a21 =>
      zbd (zrd K I19 a21 (5557 : Int32)) fun v24 =>
      if v24 = (0 : Int32) then
        f_X7_joinAll_143 F K R a0 kself I19 x1 x2 x5 (1 : Int32)
      else
        f_X7_joinAll_143 F K R a0 kself I19 x1 x2 x5 (0 : Int32)
    else
      f_X7_joinAll_194 F K R a0 kself I x1 x2 x5
def f_X7_joinAll_105 (F : Nat) (K : zK) (R : zR) (a0 : Nat)  : Nat → zI → Int32 → Int32 → Int32 → Option (Int32 × zI)
  | 0, _, _, _, _ => none
  | t + 1, I, x1, x2, x5 => g_X7_joinAll_105 F K R a0  (f_X7_joinAll_105 F K R a0  t) I x1 x2 x5
def f_X7_joinAll_72 (F : Nat) (K : zK) (R : zR) (a0 : Nat) (k28 : zI → Int32 → Int32 → Int32 → Int32 → Int32 → Option (Int32 × zI)) (I : zI) (x1 : Int32) (x2 : Int32) (x3 : Int32) (x5 : Int32) (s0 : Int32) : Option (Int32 × zI) :=
  k28 I x1 x2 x3 s0 (x5 + (1 : Int32))
def f_X7_joinAll_71 (F : Nat) (K : zK) (R : zR) (a0 : Nat) (k28 : zI → Int32 → Int32 → Int32 → Int32 → Int32 → Option (Int32 × zI)) (I : zI) (x1 : Int32) (x2 : Int32) (x3 : Int32) (x5 : Int32) : Option (Int32 × zI) :=
  f_X7_joinAll_72 F K R a0 k28 I x1 x2 x3 x5 (0 : Int32)
def f_X7_joinAll_67 (F : Nat) (K : zK) (R : zR) (a0 : Nat) (k28 : zI → Int32 → Int32 → Int32 → Int32 → Int32 → Option (Int32 × zI)) (I : zI) (x1 : Int32) (x2 : Int32) (x3 : Int32) (x5 : Int32) : Option (Int32 × zI) :=
  f_X7_joinAll_72 F K R a0 k28 I x1 x2 x3 x5 (1 : Int32)
def g_X7_joinAll_28 (F : Nat) (K : zK) (R : zR) (a0 : Nat)  (kself : zI → Int32 → Int32 → Int32 → Int32 → Int32 → Option (Int32 × zI)) (I : zI) (x1 : Int32) (x2 : Int32) (x3 : Int32) (x4 : Int32) (x5 : Int32) : Option (Int32 × zI) :=
  if (8 : Int32) ≤ x5 then
    if x3 < (2 : Int32) then
      some ((-2 : Int32), I)
    else
      if x4 = (0 : Int32) then
        some ((-2 : Int32), I)
      else
        zbd (some (R a0 0)) fun o29 =>
        zbd (zdr K o29 1) fun a30 =>
        zbd (zwr K I a30 (5557 : Int32) (0 : Int32)) fun I33 =>
        f_X7_joinAll_105 F K R a0 F I33 x1 x2 (0 : Int32)
  else
    zbd (some (x3 + ((x1 >>> (x5 &&& 31)) &&& (1 : Int32)))) fun v34 =>
    if x4 = (0 : Int32) then
      f_X7_joinAll_71 F K R a0 kself I x1 x2 v34 x5
    else
      if ((x1 >>> (x5 &&& 31)) &&& (1 : Int32)) = (0 : Int32) then
        f_X7_joinAll_67 F K R a0 kself I x1 x2 v34 x5
      else
        zbd (f_X7_isEmpty F K I R a0 x5) fun v37 =>
        if v37 = (0 : Int32) then
          f_X7_joinAll_67 F K R a0 kself I x1 x2 v34 x5
        else
          f_X7_joinAll_71 F K R a0 kself I x1 x2 v34 x5
def f_X7_joinAll_28 (F : Nat) (K : zK) (R : zR) (a0 : Nat)  : Nat → zI → Int32 → Int32 → Int32 → Int32 → Int32 → Option (Int32 × zI)
  | 0, _, _, _, _, _, _ => none
  | t + 1, I, x1, x2, x3, x4, x5 => g_X7_joinAll_28 F K R a0  (f_X7_joinAll_28 F K R a0  t) I x1 x2 x3 x4 x5
def f_X7_joinAll (F : Nat) (K : zK) (I : zI) (R : zR) (a0 : Nat) (x1 : Int32) (x2 : Int32) : Option (Int32 × zI) :=
  zbd (f_X7_in F K I R x1 (0 : Int32) (255 : Int32)) fun v40 =>
  if v40 = (0 : Int32) then
    some ((-1 : Int32), I)
  else
    zbd (f_X7_isRegister F K I R x2) fun v43 =>
    if v43 = (0 : Int32) then
      some ((-1 : Int32), I)
    else
      f_X7_joinAll_28 F K R a0 F I x1 x2 (0 : Int32) (1 : Int32) (0 : Int32)
section
variable {p : Program} {l : Launch} {e : Env} {s : State} {m : MethodId} {args : Array Value} {below : List Frame} {meth : Method} {c : Code} {D : zD} {B n n0 n' fd ld : Nat} {K K0 K' : zK} {I I' : zI} {R R' : zR} {H : Heap} {locs : List Loc} {ls : Array Slot} {r : Int32}
set_option maxRecDepth 100000 in
set_option maxHeartbeats 4000000 in
theorem w_X7_joinAll_194 {F : Nat} {a0 : Nat} {k105 : zI → Int32 → Int32 → Int32 → Option (Int32 × zI)} (X : zX p s m c cX7_joinAll 7 RX7 D) (hr : meth.sig.returnType = some .int) (hlk : meth.locks = false) (hK0 : (K a0).1 = 17) (hk105 : ∀ (I : zI) (x1 : Int32) (x2 : Int32) (x5 : Int32) (H : Heap) (locs : List Loc) (ls : Array Slot), k105 I x1 x2 x5 = some (r, I') → zS (zOwn B K (B + n)) D B n K I R s.heap H locs → lv_has ls 7 [(0, .ref (B + a0)), (1, .int x1), (2, .int x2), (5, .int x5)] → W p l e ({ frames := 6, cells := 0, slots := 0, locals := 176 } : Room) s m args below meth c H locs 0 0 (MQ below (zQi D (zOwn B K (B + n)) r B n K I' R) args s 0 0 (zOwn B K (B + n))) (F0 m 105 ls [])) {x1 : Int32} {x2 : Int32} {x5 : Int32} (hf : f_X7_joinAll_194 F K R a0 k105 I x1 x2 x5 = some (r, I')) (hW : zS (zOwn B K (B + n)) D B n K I R s.heap H locs) (hl : lv_has ls 7 [(0, .ref (B + a0)), (1, .int x1), (2, .int x2), (5, .int x5)]) : W p l e ({ frames := 6, cells := 0, slots := 0, locals := 176 } : Room) s m args below meth c H locs 0 0 (MQ below (zQi D (zOwn B K (B + n)) r B n K I' R) args s 0 0 (zOwn B K (B + n))) (F0 m 194 ls []) := by
  unfold f_X7_joinAll_194 at hf
  refine ze_iinc (lv' := [(5, .int (x5 + (1 : Int32))), (0, .ref (B + a0)), (1, .int x1), (2, .int x2)]) (d := 1) X.1 X.2.1 dX7_joinAll_194 hl (k := 3) rfl (by decide) (by decide) rfl (fun ls hk => ?_)
  replace hl := hk
  refine lv_goto (tgt := 105) X.1 X.2.1 dX7_joinAll_197 (by decide) ?_
  exact hk105 _ _ _ _ _ _ _ hf hW (lv_sub hl [1, 2, 3, 0] rfl)
set_option maxRecDepth 100000 in
set_option maxHeartbeats 4000000 in
theorem w_X7_joinAll_188 {F : Nat} {a0 : Nat} {k105 : zI → Int32 → Int32 → Int32 → Option (Int32 × zI)} (X : zX p s m c cX7_joinAll 7 RX7 D) (hr : meth.sig.returnType = some .int) (hlk : meth.locks = false) (hK0 : (K a0).1 = 17) (hk105 : ∀ (I : zI) (x1 : Int32) (x2 : Int32) (x5 : Int32) (H : Heap) (locs : List Loc) (ls : Array Slot), k105 I x1 x2 x5 = some (r, I') → zS (zOwn B K (B + n)) D B n K I R s.heap H locs → lv_has ls 7 [(0, .ref (B + a0)), (1, .int x1), (2, .int x2), (5, .int x5)] → W p l e ({ frames := 6, cells := 0, slots := 0, locals := 176 } : Room) s m args below meth c H locs 0 0 (MQ below (zQi D (zOwn B K (B + n)) r B n K I' R) args s 0 0 (zOwn B K (B + n))) (F0 m 105 ls [])) {x1 : Int32} {x2 : Int32} {x5 : Int32} {s0 : Option Nat} {s1 : Int32} (hf : f_X7_joinAll_188 F K R a0 k105 I x1 x2 x5 s0 s1 = some (r, I')) (hW : zS (zOwn B K (B + n)) D B n K I R s.heap H locs) (hl : lv_has ls 7 [(0, .ref (B + a0)), (1, .int x1), (2, .int x2), (5, .int x5)]) : W p l e ({ frames := 6, cells := 0, slots := 0, locals := 176 } : Room) s m args below meth c H locs 0 0 (MQ below (zQi D (zOwn B K (B + n)) r B n K I' R) args s 0 0 (zOwn B K (B + n))) (F0 m 188 ls [.int s1, zrf B s0]) := by
  unfold f_X7_joinAll_188 at hf
  refine lv_sipush (v := 5557) X.1 X.2.1 dX7_joinAll_188 (by decide) ?_
  obtain ⟨a1, rfl, k3, hg⟩ := zh_dr hf
  replace hf := hg
  obtain ⟨I4, h5, hg⟩ := zh_bd hf
  replace hf := hg
  refine ze_aftV0 (ze_runV (As := [.int s1, .int (5557 : Int32)]) (rest := []) X 7 178 (c_X7_copies l D B n k3 h5) vX7_copies kml_X7_178 hW k3 rfl rfl ⟨by decide, by decide⟩ rfl hl.1 rfl (Nat.le_of_ble_eq_true rfl) ⟨Nat.le_refl _, Nat.le_refl _⟩ dX7_joinAll_191) hW (fun H locs hV => ?_)
  replace hW := hV
  exact w_X7_joinAll_194 X hr hlk hK0 hk105 hf hW hl
set_option maxRecDepth 100000 in
set_option maxHeartbeats 4000000 in
theorem w_X7_joinAll_171 {F : Nat} {a0 : Nat} {k105 : zI → Int32 → Int32 → Int32 → Option (Int32 × zI)} (X : zX p s m c cX7_joinAll 7 RX7 D) (hr : meth.sig.returnType = some .int) (hlk : meth.locks = false) (hK0 : (K a0).1 = 17) (hk105 : ∀ (I : zI) (x1 : Int32) (x2 : Int32) (x5 : Int32) (H : Heap) (locs : List Loc) (ls : Array Slot), k105 I x1 x2 x5 = some (r, I') → zS (zOwn B K (B + n)) D B n K I R s.heap H locs → lv_has ls 7 [(0, .ref (B + a0)), (1, .int x1), (2, .int x2), (5, .int x5)] → W p l e ({ frames := 6, cells := 0, slots := 0, locals := 176 } : Room) s m args below meth c H locs 0 0 (MQ below (zQi D (zOwn B K (B + n)) r B n K I' R) args s 0 0 (zOwn B K (B + n))) (F0 m 105 ls [])) {x1 : Int32} {x2 : Int32} {x5 : Int32} {x6 : Int32} (hf : f_X7_joinAll_171 F K R a0 k105 I x1 x2 x5 x6 = some (r, I')) (hW : zS (zOwn B K (B + n)) D B n K I R s.heap H locs) (hl : lv_has ls 7 [(0, .ref (B + a0)), (1, .int x1), (2, .int x2), (5, .int x5), (6, .int x6)]) : W p l e ({ frames := 6, cells := 0, slots := 0, locals := 176 } : Room) s m args below meth c H locs 0 0 (MQ below (zQi D (zOwn B K (B + n)) r B n K I' R) args s 0 0 (zOwn B K (B + n))) (F0 m 171 ls []) := by
  unfold f_X7_joinAll_171 at hf
  refine lv_aload_n X.1 X.2.1 dX7_joinAll_171 rfl (lv_at hl 0 rfl) ?_
  refine lv_iload X.1 X.2.1 dX7_joinAll_172 (lv_at hl 4 rfl) ?_
  refine lv_if_eq (tgt := 185) X.1 X.2.1 dX7_joinAll_174 (by decide) (fun c6 => ?_) (fun c6 => ?_)
  · replace hf := zif_pos c6 hf
    refine lv_sipush (v := 5460) X.1 X.2.1 dX7_joinAll_185 (by decide) ?_
    exact w_X7_joinAll_188 X hr hlk hK0 hk105 hf hW (lv_sub hl [0, 1, 2, 3] rfl)
  · replace hf := zif_neg c6 hf
    refine lv_bipush (v := 97) X.1 X.2.1 dX7_joinAll_177 (by decide) ?_
    refine lv_iload X.1 X.2.1 dX7_joinAll_179 (lv_at hl 3 rfl) ?_
    refine lv_imul X.1 X.2.1 dX7_joinAll_181 ?_
    refine lv_goto (tgt := 188) X.1 X.2.1 dX7_joinAll_182 (by decide) ?_
    exact w_X7_joinAll_188 X hr hlk hK0 hk105 hf hW (lv_sub hl [0, 1, 2, 3] rfl)
set_option maxRecDepth 100000 in
set_option maxHeartbeats 4000000 in
theorem w_X7_joinAll_143 {F : Nat} {a0 : Nat} {k105 : zI → Int32 → Int32 → Int32 → Option (Int32 × zI)} (X : zX p s m c cX7_joinAll 7 RX7 D) (hr : meth.sig.returnType = some .int) (hlk : meth.locks = false) (hK0 : (K a0).1 = 17) (hk105 : ∀ (I : zI) (x1 : Int32) (x2 : Int32) (x5 : Int32) (H : Heap) (locs : List Loc) (ls : Array Slot), k105 I x1 x2 x5 = some (r, I') → zS (zOwn B K (B + n)) D B n K I R s.heap H locs → lv_has ls 7 [(0, .ref (B + a0)), (1, .int x1), (2, .int x2), (5, .int x5)] → W p l e ({ frames := 6, cells := 0, slots := 0, locals := 176 } : Room) s m args below meth c H locs 0 0 (MQ below (zQi D (zOwn B K (B + n)) r B n K I' R) args s 0 0 (zOwn B K (B + n))) (F0 m 105 ls [])) {x1 : Int32} {x2 : Int32} {x5 : Int32} {s0 : Int32} (hf : f_X7_joinAll_143 F K R a0 k105 I x1 x2 x5 s0 = some (r, I')) (hW : zS (zOwn B K (B + n)) D B n K I R s.heap H locs) (hl : lv_has ls 7 [(0, .ref (B + a0)), (1, .int x1), (2, .int x2), (5, .int x5)]) : W p l e ({ frames := 6, cells := 0, slots := 0, locals := 176 } : Room) s m args below meth c H locs 0 0 (MQ below (zQi D (zOwn B K (B + n)) r B n K I' R) args s 0 0 (zOwn B K (B + n))) (F0 m 143 ls [.int s0]) := by
  unfold f_X7_joinAll_143 at hf
  refine lv_istore (lv' := [(6, .int s0), (0, .ref (B + a0)), (1, .int x1), (2, .int x2), (5, .int x5)]) X.1 X.2.1 dX7_joinAll_143 hl (by decide) rfl (fun ls hk => ?_)
  replace hl := hk
  refine lv_iload X.1 X.2.1 dX7_joinAll_145 (lv_at hl 0 rfl) ?_
  refine lv_if_ne (tgt := 171) X.1 X.2.1 dX7_joinAll_147 (by decide) (fun c7 => ?_) (fun c7 => ?_)
  · replace hf := zif_neg c7 hf
    exact w_X7_joinAll_171 X hr hlk hK0 hk105 hf hW (lv_sub hl [1, 2, 3, 4, 0] rfl)
  · replace hf := zif_pos c7 hf
    refine lv_aload_n X.1 X.2.1 dX7_joinAll_150 rfl (lv_at hl 1 rfl) ?_
    refine lv_sipush (v := 5557) X.1 X.2.1 dX7_joinAll_151 (by decide) ?_
    refine lv_bipush (v := 97) X.1 X.2.1 dX7_joinAll_154 (by decide) ?_
    refine lv_iload X.1 X.2.1 dX7_joinAll_156 (lv_at hl 4 rfl) ?_
    refine lv_imul X.1 X.2.1 dX7_joinAll_158 ?_
    refine lv_sipush (v := 5460) X.1 X.2.1 dX7_joinAll_159 (by decide) ?_
    obtain ⟨v8, I9, h10, hg⟩ := zh_bd2 hf
    replace hf := hg
    refine ze_aftI0 (ze_runV (As := [.int (5557 : Int32), .int ((97 : Int32) * x5), .int (5460 : Int32)]) (rest := []) X 7 258 (c_X7_joins l D B n hK0 h10) vX7_joins kml_X7_258 hW hK0 rfl rfl ⟨by decide, by decide⟩ rfl hl.1 rfl (Nat.le_of_ble_eq_true rfl) ⟨Nat.le_refl _, Nat.le_refl _⟩ dX7_joinAll_162) hW (fun H locs hV => ?_)
    replace hW := hV
    refine lv_if_ne (tgt := 171) X.1 X.2.1 dX7_joinAll_165 (by decide) (fun c11 => ?_) (fun c11 => ?_)
    · replace hf := zif_neg c11 hf
      exact w_X7_joinAll_171 X hr hlk hK0 hk105 hf hW (lv_sub hl [1, 2, 3, 4, 0] rfl)
    · replace hf := zif_pos c11 hf
      refine lv_bipush (v := -3) X.1 X.2.1 dX7_joinAll_168 (by decide) ?_
      obtain ⟨rfl, rfl⟩ := zi2 hf
      exact ze_retI X hr hlk hW (Nat.le_refl _) (Nat.le_refl _) dX7_joinAll_170
set_option maxRecDepth 100000 in
set_option maxHeartbeats 4000000 in
theorem wg_X7_joinAll_105 {F : Nat} {a0 : Nat}  (X : zX p s m c cX7_joinAll 7 RX7 D) (hr : meth.sig.returnType = some .int) (hlk : meth.locks = false) (hK0 : (K a0).1 = 17)  {kself : zI → Int32 → Int32 → Int32 → Option (Int32 × zI)} (hkself : ∀ (I : zI) (x1 : Int32) (x2 : Int32) (x5 : Int32) (H : Heap) (locs : List Loc) (ls : Array Slot), kself I x1 x2 x5 = some (r, I') → zS (zOwn B K (B + n)) D B n K I R s.heap H locs → lv_has ls 7 [(0, .ref (B + a0)), (1, .int x1), (2, .int x2), (5, .int x5)] → W p l e ({ frames := 6, cells := 0, slots := 0, locals := 176 } : Room) s m args below meth c H locs 0 0 (MQ below (zQi D (zOwn B K (B + n)) r B n K I' R) args s 0 0 (zOwn B K (B + n))) (F0 m 105 ls [])) {x1 : Int32} {x2 : Int32} {x5 : Int32} (hf : g_X7_joinAll_105 F K R a0  kself I x1 x2 x5 = some (r, I')) (hW : zS (zOwn B K (B + n)) D B n K I R s.heap H locs) (hl : lv_has ls 7 [(0, .ref (B + a0)), (1, .int x1), (2, .int x2), (5, .int x5)]) : W p l e ({ frames := 6, cells := 0, slots := 0, locals := 176 } : Room) s m args below meth c H locs 0 0 (MQ below (zQi D (zOwn B K (B + n)) r B n K I' R) args s 0 0 (zOwn B K (B + n))) (F0 m 105 ls []) := by
  unfold g_X7_joinAll_105 at hf
  refine lv_iload X.1 X.2.1 dX7_joinAll_105 (lv_at hl 3 rfl) ?_
  refine lv_bipush (v := 8) X.1 X.2.1 dX7_joinAll_107 (by decide) ?_
  refine lv_icmp_ge (tgt := 200) X.1 X.2.1 dX7_joinAll_109 (by decide) (fun c12 => ?_) (fun c12 => ?_)
  · replace hf := zif_pos c12 hf
    refine lv_aload_n X.1 X.2.1 dX7_joinAll_200 rfl (lv_at hl 0 rfl) ?_
    obtain ⟨I13, h14, hg⟩ := zh_bd hf
    replace hf := hg
    refine ze_aftV0 (ze_runV (As := []) (rest := []) X 7 198 (c_X7_records l D B n hK0 h14) vX7_records kml_X7_198 hW hK0 rfl rfl ⟨by decide, by decide⟩ rfl hl.1 rfl (Nat.le_of_ble_eq_true rfl) ⟨Nat.le_refl _, Nat.le_refl _⟩ dX7_joinAll_201) hW (fun H locs hV => ?_)
    replace hW := hV
    refine lv_aload_n X.1 X.2.1 dX7_joinAll_204 rfl (lv_at hl 0 rfl) ?_
    refine lv_sipush (v := 5557) X.1 X.2.1 dX7_joinAll_205 (by decide) ?_
    refine lv_iload_n X.1 X.2.1 dX7_joinAll_208 rfl (lv_at hl 2 rfl) ?_
    obtain ⟨v15, I16, h17, hg⟩ := zh_bd2 hf
    replace hf := hg
    refine ze_aftI0 (ze_runV (As := [.int (5557 : Int32), .int x2]) (rest := []) X 7 201 (c_X7_puts l D B n hK0 h17) vX7_puts kml_X7_201 hW hK0 rfl rfl ⟨by decide, by decide⟩ rfl hl.1 rfl (Nat.le_of_ble_eq_true rfl) ⟨Nat.le_refl _, Nat.le_refl _⟩ dX7_joinAll_209) hW (fun H locs hV => ?_)
    replace hW := hV
    obtain ⟨rfl, rfl⟩ := zi2 hf
    exact ze_retI X hr hlk hW (Nat.le_refl _) (Nat.le_refl _) dX7_joinAll_212
  · replace hf := zif_neg c12 hf
    refine lv_iload_n X.1 X.2.1 dX7_joinAll_112 rfl (lv_at hl 1 rfl) ?_
    refine lv_iload X.1 X.2.1 dX7_joinAll_113 (lv_at hl 3 rfl) ?_
    refine lv_ishr X.1 X.2.1 dX7_joinAll_115 ?_
    refine lv_iconst (v := 1) X.1 X.2.1 dX7_joinAll_116 (by decide) ?_
    refine lv_iand X.1 X.2.1 dX7_joinAll_117 ?_
    refine lv_iconst (v := 1) X.1 X.2.1 dX7_joinAll_118 (by decide) ?_
    refine lv_icmp_ne (tgt := 194) X.1 X.2.1 dX7_joinAll_119 (by decide) (fun c18 => ?_) (fun c18 => ?_)
    · replace hf := zif_neg c18 hf
      exact w_X7_joinAll_194 X hr hlk hK0 hkself hf hW hl
    · replace hf := zif_pos c18 hf
      refine lv_aload_n X.1 X.2.1 dX7_joinAll_122 rfl (lv_at hl 0 rfl) ?_
      refine lv_iconst (v := 0) X.1 X.2.1 dX7_joinAll_123 (by decide) ?_
      refine ze_putI X 7 16 221 (RX7, TX7, 39) rfl hf hW hK0 rfl (by decide) kfl_X7_221 rfl (by decide +kernel) dX7_joinAll_124 (fun I19 H locs hg hV => ?_)
      replace hf := hg
      replace hW := hV
      refine lv_aload_n X.1 X.2.1 dX7_joinAll_127 rfl (lv_at hl 0 rfl) ?_
      refine ze_gtR X 7 0 7 (RX7, TX7, 39) rfl hf hW hK0 rfl (by decide) kfl_X7_7 dX7_joinAll_128 (fun o20 hg => ?_)
      replace hf := hg
      refine lv_sipush (v := 5557) X.1 X.2.1 dX7_joinAll_131 (by decide) ?_
      obtain ⟨a21, rfl, k23, hg⟩ := zh_dr hf
      replace hf := hg
      refine ze_iald X hf hW k23 dX7_joinAll_134 (fun v24 hg => ?_)
      replace hf := hg
      refine lv_if_ne (tgt := 142) X.1 X.2.1 dX7_joinAll_135 (by decide) (fun c25 => ?_) (fun c25 => ?_)
      · replace hf := zif_neg c25 hf
        refine lv_iconst (v := 0) X.1 X.2.1 dX7_joinAll_142 (by decide) ?_
        exact w_X7_joinAll_143 X hr hlk hK0 hkself hf hW hl
      · replace hf := zif_pos c25 hf
        refine lv_iconst (v := 1) X.1 X.2.1 dX7_joinAll_138 (by decide) ?_
        refine lv_goto (tgt := 143) X.1 X.2.1 dX7_joinAll_139 (by decide) ?_
        exact w_X7_joinAll_143 X hr hlk hK0 hkself hf hW hl
set_option maxRecDepth 100000 in
set_option maxHeartbeats 4000000 in
theorem w_X7_joinAll_105 {F : Nat} {a0 : Nat}  (X : zX p s m c cX7_joinAll 7 RX7 D) (hr : meth.sig.returnType = some .int) (hlk : meth.locks = false) (hK0 : (K a0).1 = 17)  {t : Nat} {x1 : Int32} {x2 : Int32} {x5 : Int32} (hf : f_X7_joinAll_105 F K R a0  t I x1 x2 x5 = some (r, I')) (hW : zS (zOwn B K (B + n)) D B n K I R s.heap H locs) (hl : lv_has ls 7 [(0, .ref (B + a0)), (1, .int x1), (2, .int x2), (5, .int x5)]) : W p l e ({ frames := 6, cells := 0, slots := 0, locals := 176 } : Room) s m args below meth c H locs 0 0 (MQ below (zQi D (zOwn B K (B + n)) r B n K I' R) args s 0 0 (zOwn B K (B + n))) (F0 m 105 ls []) := by
  have key : ∀ t : Nat, ∀ (I : zI) (x1 : Int32) (x2 : Int32) (x5 : Int32) (H : Heap) (locs : List Loc) (ls : Array Slot), f_X7_joinAll_105 F K R a0  t I x1 x2 x5 = some (r, I') → zS (zOwn B K (B + n)) D B n K I R s.heap H locs → lv_has ls 7 [(0, .ref (B + a0)), (1, .int x1), (2, .int x2), (5, .int x5)] → W p l e ({ frames := 6, cells := 0, slots := 0, locals := 176 } : Room) s m args below meth c H locs 0 0 (MQ below (zQi D (zOwn B K (B + n)) r B n K I' R) args s 0 0 (zOwn B K (B + n))) (F0 m 105 ls []) := by
    intro t
    induction t with
    | zero =>
      intro I x1 x2 x5 H locs ls hf hW hl
      cases hf
    | succ t ih =>
      intro I x1 x2 x5 H locs ls hf hW hl
      exact wg_X7_joinAll_105 X hr hlk hK0  ih hf hW hl
  exact key t _ _ _ _ _ _ _ hf hW hl
set_option maxRecDepth 100000 in
set_option maxHeartbeats 4000000 in
theorem w_X7_joinAll_72 {F : Nat} {a0 : Nat} {k28 : zI → Int32 → Int32 → Int32 → Int32 → Int32 → Option (Int32 × zI)} (X : zX p s m c cX7_joinAll 7 RX7 D) (hr : meth.sig.returnType = some .int) (hlk : meth.locks = false) (hK0 : (K a0).1 = 17) (hk28 : ∀ (I : zI) (x1 : Int32) (x2 : Int32) (x3 : Int32) (x4 : Int32) (x5 : Int32) (H : Heap) (locs : List Loc) (ls : Array Slot), k28 I x1 x2 x3 x4 x5 = some (r, I') → zS (zOwn B K (B + n)) D B n K I R s.heap H locs → lv_has ls 7 [(0, .ref (B + a0)), (1, .int x1), (2, .int x2), (3, .int x3), (4, .int x4), (5, .int x5)] → W p l e ({ frames := 6, cells := 0, slots := 0, locals := 176 } : Room) s m args below meth c H locs 0 0 (MQ below (zQi D (zOwn B K (B + n)) r B n K I' R) args s 0 0 (zOwn B K (B + n))) (F0 m 28 ls [])) {x1 : Int32} {x2 : Int32} {x3 : Int32} {x5 : Int32} {s0 : Int32} (hf : f_X7_joinAll_72 F K R a0 k28 I x1 x2 x3 x5 s0 = some (r, I')) (hW : zS (zOwn B K (B + n)) D B n K I R s.heap H locs) (hl : lv_has ls 7 [(0, .ref (B + a0)), (1, .int x1), (2, .int x2), (3, .int x3), (5, .int x5)]) : W p l e ({ frames := 6, cells := 0, slots := 0, locals := 176 } : Room) s m args below meth c H locs 0 0 (MQ below (zQi D (zOwn B K (B + n)) r B n K I' R) args s 0 0 (zOwn B K (B + n))) (F0 m 72 ls [.int s0]) := by
  unfold f_X7_joinAll_72 at hf
  refine lv_istore (lv' := [(4, .int s0), (0, .ref (B + a0)), (1, .int x1), (2, .int x2), (3, .int x3), (5, .int x5)]) X.1 X.2.1 dX7_joinAll_72 hl (by decide) rfl (fun ls hk => ?_)
  replace hl := hk
  refine ze_iinc (lv' := [(5, .int (x5 + (1 : Int32))), (4, .int s0), (0, .ref (B + a0)), (1, .int x1), (2, .int x2), (3, .int x3)]) (d := 1) X.1 X.2.1 dX7_joinAll_74 hl (k := 5) rfl (by decide) (by decide) rfl (fun ls hk => ?_)
  replace hl := hk
  refine lv_goto (tgt := 28) X.1 X.2.1 dX7_joinAll_77 (by decide) ?_
  exact hk28 _ _ _ _ _ _ _ _ _ hf hW (lv_sub hl [2, 3, 4, 5, 1, 0] rfl)
set_option maxRecDepth 100000 in
set_option maxHeartbeats 4000000 in
theorem w_X7_joinAll_71 {F : Nat} {a0 : Nat} {k28 : zI → Int32 → Int32 → Int32 → Int32 → Int32 → Option (Int32 × zI)} (X : zX p s m c cX7_joinAll 7 RX7 D) (hr : meth.sig.returnType = some .int) (hlk : meth.locks = false) (hK0 : (K a0).1 = 17) (hk28 : ∀ (I : zI) (x1 : Int32) (x2 : Int32) (x3 : Int32) (x4 : Int32) (x5 : Int32) (H : Heap) (locs : List Loc) (ls : Array Slot), k28 I x1 x2 x3 x4 x5 = some (r, I') → zS (zOwn B K (B + n)) D B n K I R s.heap H locs → lv_has ls 7 [(0, .ref (B + a0)), (1, .int x1), (2, .int x2), (3, .int x3), (4, .int x4), (5, .int x5)] → W p l e ({ frames := 6, cells := 0, slots := 0, locals := 176 } : Room) s m args below meth c H locs 0 0 (MQ below (zQi D (zOwn B K (B + n)) r B n K I' R) args s 0 0 (zOwn B K (B + n))) (F0 m 28 ls [])) {x1 : Int32} {x2 : Int32} {x3 : Int32} {x5 : Int32} (hf : f_X7_joinAll_71 F K R a0 k28 I x1 x2 x3 x5 = some (r, I')) (hW : zS (zOwn B K (B + n)) D B n K I R s.heap H locs) (hl : lv_has ls 7 [(0, .ref (B + a0)), (1, .int x1), (2, .int x2), (3, .int x3), (5, .int x5)]) : W p l e ({ frames := 6, cells := 0, slots := 0, locals := 176 } : Room) s m args below meth c H locs 0 0 (MQ below (zQi D (zOwn B K (B + n)) r B n K I' R) args s 0 0 (zOwn B K (B + n))) (F0 m 71 ls []) := by
  unfold f_X7_joinAll_71 at hf
  refine lv_iconst (v := 0) X.1 X.2.1 dX7_joinAll_71 (by decide) ?_
  exact w_X7_joinAll_72 X hr hlk hK0 hk28 hf hW hl
set_option maxRecDepth 100000 in
set_option maxHeartbeats 4000000 in
theorem w_X7_joinAll_67 {F : Nat} {a0 : Nat} {k28 : zI → Int32 → Int32 → Int32 → Int32 → Int32 → Option (Int32 × zI)} (X : zX p s m c cX7_joinAll 7 RX7 D) (hr : meth.sig.returnType = some .int) (hlk : meth.locks = false) (hK0 : (K a0).1 = 17) (hk28 : ∀ (I : zI) (x1 : Int32) (x2 : Int32) (x3 : Int32) (x4 : Int32) (x5 : Int32) (H : Heap) (locs : List Loc) (ls : Array Slot), k28 I x1 x2 x3 x4 x5 = some (r, I') → zS (zOwn B K (B + n)) D B n K I R s.heap H locs → lv_has ls 7 [(0, .ref (B + a0)), (1, .int x1), (2, .int x2), (3, .int x3), (4, .int x4), (5, .int x5)] → W p l e ({ frames := 6, cells := 0, slots := 0, locals := 176 } : Room) s m args below meth c H locs 0 0 (MQ below (zQi D (zOwn B K (B + n)) r B n K I' R) args s 0 0 (zOwn B K (B + n))) (F0 m 28 ls [])) {x1 : Int32} {x2 : Int32} {x3 : Int32} {x5 : Int32} (hf : f_X7_joinAll_67 F K R a0 k28 I x1 x2 x3 x5 = some (r, I')) (hW : zS (zOwn B K (B + n)) D B n K I R s.heap H locs) (hl : lv_has ls 7 [(0, .ref (B + a0)), (1, .int x1), (2, .int x2), (3, .int x3), (5, .int x5)]) : W p l e ({ frames := 6, cells := 0, slots := 0, locals := 176 } : Room) s m args below meth c H locs 0 0 (MQ below (zQi D (zOwn B K (B + n)) r B n K I' R) args s 0 0 (zOwn B K (B + n))) (F0 m 67 ls []) := by
  unfold f_X7_joinAll_67 at hf
  refine lv_iconst (v := 1) X.1 X.2.1 dX7_joinAll_67 (by decide) ?_
  refine lv_goto (tgt := 72) X.1 X.2.1 dX7_joinAll_68 (by decide) ?_
  exact w_X7_joinAll_72 X hr hlk hK0 hk28 hf hW hl
set_option maxRecDepth 100000 in
set_option maxHeartbeats 4000000 in
theorem wg_X7_joinAll_28 {F : Nat} {a0 : Nat}  (X : zX p s m c cX7_joinAll 7 RX7 D) (hr : meth.sig.returnType = some .int) (hlk : meth.locks = false) (hK0 : (K a0).1 = 17)  {kself : zI → Int32 → Int32 → Int32 → Int32 → Int32 → Option (Int32 × zI)} (hkself : ∀ (I : zI) (x1 : Int32) (x2 : Int32) (x3 : Int32) (x4 : Int32) (x5 : Int32) (H : Heap) (locs : List Loc) (ls : Array Slot), kself I x1 x2 x3 x4 x5 = some (r, I') → zS (zOwn B K (B + n)) D B n K I R s.heap H locs → lv_has ls 7 [(0, .ref (B + a0)), (1, .int x1), (2, .int x2), (3, .int x3), (4, .int x4), (5, .int x5)] → W p l e ({ frames := 6, cells := 0, slots := 0, locals := 176 } : Room) s m args below meth c H locs 0 0 (MQ below (zQi D (zOwn B K (B + n)) r B n K I' R) args s 0 0 (zOwn B K (B + n))) (F0 m 28 ls [])) {x1 : Int32} {x2 : Int32} {x3 : Int32} {x4 : Int32} {x5 : Int32} (hf : g_X7_joinAll_28 F K R a0  kself I x1 x2 x3 x4 x5 = some (r, I')) (hW : zS (zOwn B K (B + n)) D B n K I R s.heap H locs) (hl : lv_has ls 7 [(0, .ref (B + a0)), (1, .int x1), (2, .int x2), (3, .int x3), (4, .int x4), (5, .int x5)]) : W p l e ({ frames := 6, cells := 0, slots := 0, locals := 176 } : Room) s m args below meth c H locs 0 0 (MQ below (zQi D (zOwn B K (B + n)) r B n K I' R) args s 0 0 (zOwn B K (B + n))) (F0 m 28 ls []) := by
  unfold g_X7_joinAll_28 at hf
  refine lv_iload X.1 X.2.1 dX7_joinAll_28 (lv_at hl 5 rfl) ?_
  refine lv_bipush (v := 8) X.1 X.2.1 dX7_joinAll_30 (by decide) ?_
  refine lv_icmp_ge (tgt := 80) X.1 X.2.1 dX7_joinAll_32 (by decide) (fun c26 => ?_) (fun c26 => ?_)
  · replace hf := zif_pos c26 hf
    refine lv_iload_n X.1 X.2.1 dX7_joinAll_80 rfl (lv_at hl 3 rfl) ?_
    refine lv_iconst (v := 2) X.1 X.2.1 dX7_joinAll_81 (by decide) ?_
    refine lv_icmp_lt (tgt := 90) X.1 X.2.1 dX7_joinAll_82 (by decide) (fun c27 => ?_) (fun c27 => ?_)
    · replace hf := zif_pos c27 hf
      refine lv_bipush (v := -2) X.1 X.2.1 dX7_joinAll_90 (by decide) ?_
      obtain ⟨rfl, rfl⟩ := zi2 hf
      exact ze_retI X hr hlk hW (Nat.le_refl _) (Nat.le_refl _) dX7_joinAll_92
    · replace hf := zif_neg c27 hf
      refine lv_iload X.1 X.2.1 dX7_joinAll_85 (lv_at hl 4 rfl) ?_
      refine lv_if_ne (tgt := 93) X.1 X.2.1 dX7_joinAll_87 (by decide) (fun c28 => ?_) (fun c28 => ?_)
      · replace hf := zif_neg c28 hf
        refine lv_aload_n X.1 X.2.1 dX7_joinAll_93 rfl (lv_at hl 0 rfl) ?_
        refine ze_gtR X 7 0 7 (RX7, TX7, 39) rfl hf hW hK0 rfl (by decide) kfl_X7_7 dX7_joinAll_94 (fun o29 hg => ?_)
        replace hf := hg
        refine lv_sipush (v := 5557) X.1 X.2.1 dX7_joinAll_97 (by decide) ?_
        refine lv_iconst (v := 0) X.1 X.2.1 dX7_joinAll_100 (by decide) ?_
        obtain ⟨a30, rfl, k32, hg⟩ := zh_dr hf
        replace hf := hg
        refine ze_iast X hf hW k32 dX7_joinAll_101 (fun I33 H locs hg hV => ?_)
        replace hf := hg
        replace hW := hV
        refine lv_iconst (v := 0) X.1 X.2.1 dX7_joinAll_102 (by decide) ?_
        refine lv_istore (lv' := [(5, .int (0 : Int32)), (0, .ref (B + a0)), (1, .int x1), (2, .int x2), (3, .int x3), (4, .int x4)]) X.1 X.2.1 dX7_joinAll_103 hl (by decide) rfl (fun ls hk => ?_)
        replace hl := hk
        exact w_X7_joinAll_105 X hr hlk hK0 hf hW (lv_sub hl [1, 2, 3, 0] rfl)
      · replace hf := zif_pos c28 hf
        refine lv_bipush (v := -2) X.1 X.2.1 dX7_joinAll_90 (by decide) ?_
        obtain ⟨rfl, rfl⟩ := zi2 hf
        exact ze_retI X hr hlk hW (Nat.le_refl _) (Nat.le_refl _) dX7_joinAll_92
  · replace hf := zif_neg c26 hf
    refine lv_iload_n X.1 X.2.1 dX7_joinAll_35 rfl (lv_at hl 3 rfl) ?_
    refine lv_iload_n X.1 X.2.1 dX7_joinAll_36 rfl (lv_at hl 1 rfl) ?_
    refine lv_iload X.1 X.2.1 dX7_joinAll_37 (lv_at hl 5 rfl) ?_
    refine lv_ishr X.1 X.2.1 dX7_joinAll_39 ?_
    refine lv_iconst (v := 1) X.1 X.2.1 dX7_joinAll_40 (by decide) ?_
    refine lv_iand X.1 X.2.1 dX7_joinAll_41 ?_
    refine lv_iadd X.1 X.2.1 dX7_joinAll_42 ?_
    refine ze_nm hf (fun v34 hg => ?_)
    replace hf := hg
    refine lv_istore_n (i := 3) (lv' := [(3, .int v34), (0, .ref (B + a0)), (1, .int x1), (2, .int x2), (4, .int x4), (5, .int x5)]) X.1 X.2.1 dX7_joinAll_43 rfl hl (by decide) rfl (fun ls hk => ?_)
    replace hl := hk
    refine lv_iload X.1 X.2.1 dX7_joinAll_44 (lv_at hl 4 rfl) ?_
    refine lv_if_eq (tgt := 71) X.1 X.2.1 dX7_joinAll_46 (by decide) (fun c35 => ?_) (fun c35 => ?_)
    · replace hf := zif_pos c35 hf
      exact w_X7_joinAll_71 X hr hlk hK0 hkself hf hW (lv_sub hl [1, 2, 3, 0, 5] rfl)
    · replace hf := zif_neg c35 hf
      refine lv_iload_n X.1 X.2.1 dX7_joinAll_49 rfl (lv_at hl 2 rfl) ?_
      refine lv_iload X.1 X.2.1 dX7_joinAll_50 (lv_at hl 5 rfl) ?_
      refine lv_ishr X.1 X.2.1 dX7_joinAll_52 ?_
      refine lv_iconst (v := 1) X.1 X.2.1 dX7_joinAll_53 (by decide) ?_
      refine lv_iand X.1 X.2.1 dX7_joinAll_54 ?_
      refine lv_if_eq (tgt := 67) X.1 X.2.1 dX7_joinAll_55 (by decide) (fun c36 => ?_) (fun c36 => ?_)
      · replace hf := zif_pos c36 hf
        exact w_X7_joinAll_67 X hr hlk hK0 hkself hf hW (lv_sub hl [1, 2, 3, 0, 5] rfl)
      · replace hf := zif_neg c36 hf
        refine lv_aload_n X.1 X.2.1 dX7_joinAll_58 rfl (lv_at hl 1 rfl) ?_
        refine lv_iload X.1 X.2.1 dX7_joinAll_59 (lv_at hl 5 rfl) ?_
        obtain ⟨v37, h38, hg⟩ := zh_bd hf
        replace hf := hg
        refine ze_aftI0 (ze_runV (As := [.int x5]) (rest := []) X 7 204 (c_X7_isEmpty l D B n hK0 h38) vX7_isEmpty kml_X7_204 hW hK0 rfl rfl ⟨by decide, by decide⟩ rfl hl.1 rfl (Nat.le_of_ble_eq_true rfl) ⟨Nat.le_refl _, Nat.le_refl _⟩ dX7_joinAll_61) hW (fun H locs hV => ?_)
        replace hW := hV
        refine lv_if_ne (tgt := 71) X.1 X.2.1 dX7_joinAll_64 (by decide) (fun c39 => ?_) (fun c39 => ?_)
        · replace hf := zif_neg c39 hf
          exact w_X7_joinAll_71 X hr hlk hK0 hkself hf hW (lv_sub hl [1, 2, 3, 0, 5] rfl)
        · replace hf := zif_pos c39 hf
          exact w_X7_joinAll_67 X hr hlk hK0 hkself hf hW (lv_sub hl [1, 2, 3, 0, 5] rfl)
set_option maxRecDepth 100000 in
set_option maxHeartbeats 4000000 in
theorem w_X7_joinAll_28 {F : Nat} {a0 : Nat}  (X : zX p s m c cX7_joinAll 7 RX7 D) (hr : meth.sig.returnType = some .int) (hlk : meth.locks = false) (hK0 : (K a0).1 = 17)  {t : Nat} {x1 : Int32} {x2 : Int32} {x3 : Int32} {x4 : Int32} {x5 : Int32} (hf : f_X7_joinAll_28 F K R a0  t I x1 x2 x3 x4 x5 = some (r, I')) (hW : zS (zOwn B K (B + n)) D B n K I R s.heap H locs) (hl : lv_has ls 7 [(0, .ref (B + a0)), (1, .int x1), (2, .int x2), (3, .int x3), (4, .int x4), (5, .int x5)]) : W p l e ({ frames := 6, cells := 0, slots := 0, locals := 176 } : Room) s m args below meth c H locs 0 0 (MQ below (zQi D (zOwn B K (B + n)) r B n K I' R) args s 0 0 (zOwn B K (B + n))) (F0 m 28 ls []) := by
  have key : ∀ t : Nat, ∀ (I : zI) (x1 : Int32) (x2 : Int32) (x3 : Int32) (x4 : Int32) (x5 : Int32) (H : Heap) (locs : List Loc) (ls : Array Slot), f_X7_joinAll_28 F K R a0  t I x1 x2 x3 x4 x5 = some (r, I') → zS (zOwn B K (B + n)) D B n K I R s.heap H locs → lv_has ls 7 [(0, .ref (B + a0)), (1, .int x1), (2, .int x2), (3, .int x3), (4, .int x4), (5, .int x5)] → W p l e ({ frames := 6, cells := 0, slots := 0, locals := 176 } : Room) s m args below meth c H locs 0 0 (MQ below (zQi D (zOwn B K (B + n)) r B n K I' R) args s 0 0 (zOwn B K (B + n))) (F0 m 28 ls []) := by
    intro t
    induction t with
    | zero =>
      intro I x1 x2 x3 x4 x5 H locs ls hf hW hl
      cases hf
    | succ t ih =>
      intro I x1 x2 x3 x4 x5 H locs ls hf hW hl
      exact wg_X7_joinAll_28 X hr hlk hK0  ih hf hW hl
  exact key t _ _ _ _ _ _ _ _ _ hf hW hl
set_option maxRecDepth 100000 in
set_option maxHeartbeats 4000000 in
theorem c_X7_joinAll (l : Launch) (D : zD) (B n : Nat) {F : Nat} {K : zK} {I : zI} {R : zR} {a0 : Nat} {x1 : Int32} {x2 : Int32} {r : Int32} {I' : zI} (hK0 : (K a0).1 = 17) (hf : f_X7_joinAll F K I R a0 x1 x2 = some (r, I')) : zM l yX7_joinAll cX7_joinAll 7 (some .int) ({ frames := 6, cells := 0, slots := 0, locals := 176 } : Room) D B n K I R [.ref (B + a0), .int x1, .int x2] (zQi D (zOwn B K (B + n)) r B n K I' R) := by
  refine ze_entry (lv0 := [(0, .ref (B + a0)), (1, .int x1), (2, .int x2)]) (by decide) (by simp [lg_sl, zcat, zcat_i, zcat_r, zcat_l]) (by simp [lv_args, zcat, zcat_i, zcat_r, zcat_l]) (fun p e s m below meth c X hr hlk hin hW ls hl => ?_)
  unfold f_X7_joinAll at hf
  refine lv_iload_n X.1 X.2.1 dX7_joinAll_0 rfl (lv_at hl 1 rfl) ?_
  refine lv_iconst (v := 0) X.1 X.2.1 dX7_joinAll_1 (by decide) ?_
  refine lv_sipush (v := 255) X.1 X.2.1 dX7_joinAll_2 (by decide) ?_
  obtain ⟨v40, h41, hg⟩ := zh_bd hf
  replace hf := hg
  refine ze_aftI0 (ze_runS (As := [.int x1, .int (0 : Int32), .int (255 : Int32)]) (rest := []) X 122 (c_X7_in l D B n h41) vX7_in kml_X7_122 hW ⟨by decide, by decide⟩ rfl hl.1 rfl (Nat.le_of_ble_eq_true rfl) ⟨Nat.le_refl _, Nat.le_refl _⟩ dX7_joinAll_5) hW (fun H locs hV => ?_)
  replace hW := hV
  refine lv_if_eq (tgt := 18) X.1 X.2.1 dX7_joinAll_8 (by decide) (fun c42 => ?_) (fun c42 => ?_)
  · replace hf := zif_pos c42 hf
    refine lv_iconst (v := -1) X.1 X.2.1 dX7_joinAll_18 (by decide) ?_
    obtain ⟨rfl, rfl⟩ := zi2 hf
    exact ze_retI X hr hlk hW (Nat.le_refl _) (Nat.le_refl _) dX7_joinAll_19
  · replace hf := zif_neg c42 hf
    refine lv_iload_n X.1 X.2.1 dX7_joinAll_11 rfl (lv_at hl 2 rfl) ?_
    obtain ⟨v43, h44, hg⟩ := zh_bd hf
    replace hf := hg
    refine ze_aftI0 (ze_runS (As := [.int x2]) (rest := []) X 182 (c_X7_isRegister l D B n h44) vX7_isRegister kml_X7_182 hW ⟨by decide, by decide⟩ rfl hl.1 rfl (Nat.le_of_ble_eq_true rfl) ⟨Nat.le_refl _, Nat.le_refl _⟩ dX7_joinAll_12) hW (fun H locs hV => ?_)
    replace hW := hV
    refine lv_if_ne (tgt := 20) X.1 X.2.1 dX7_joinAll_15 (by decide) (fun c45 => ?_) (fun c45 => ?_)
    · replace hf := zif_neg c45 hf
      refine lv_iconst (v := 0) X.1 X.2.1 dX7_joinAll_20 (by decide) ?_
      refine lv_istore_n (i := 3) (lv' := [(3, .int (0 : Int32)), (0, .ref (B + a0)), (1, .int x1), (2, .int x2)]) X.1 X.2.1 dX7_joinAll_21 rfl hl (by decide) rfl (fun ls hk => ?_)
      replace hl := hk
      refine lv_iconst (v := 1) X.1 X.2.1 dX7_joinAll_22 (by decide) ?_
      refine lv_istore (lv' := [(4, .int (1 : Int32)), (3, .int (0 : Int32)), (0, .ref (B + a0)), (1, .int x1), (2, .int x2)]) X.1 X.2.1 dX7_joinAll_23 hl (by decide) rfl (fun ls hk => ?_)
      replace hl := hk
      refine lv_iconst (v := 0) X.1 X.2.1 dX7_joinAll_25 (by decide) ?_
      refine lv_istore (lv' := [(5, .int (0 : Int32)), (4, .int (1 : Int32)), (3, .int (0 : Int32)), (0, .ref (B + a0)), (1, .int x1), (2, .int x2)]) X.1 X.2.1 dX7_joinAll_26 hl (by decide) rfl (fun ls hk => ?_)
      replace hl := hk
      exact w_X7_joinAll_28 X hr hlk hK0 hf hW (lv_sub hl [3, 4, 5, 2, 1, 0] rfl)
    · replace hf := zif_pos c45 hf
      refine lv_iconst (v := -1) X.1 X.2.1 dX7_joinAll_18 (by decide) ?_
      obtain ⟨rfl, rfl⟩ := zi2 hf
      exact ze_retI X hr hlk hW (Nat.le_refl _) (Nat.le_refl _) dX7_joinAll_19
end

/-! LeastPatternsModel.originOf(II)I -/
def f_X7_originOf_41 (F : Nat) (K : zK) (I : zI) (R : zR) (a0 : Nat)  (x2 : Int32) (x3 : Int32) (s0 : Int32) : Option (Int32) :=
  if (x2 - (x2 / (2 : Int32)) * (2 : Int32)) = (1 : Int32) then
    some x3
  else
    if x3 = (0 : Int32) then
      some (-9 : Int32)
    else
      some s0
def f_X7_originOf_20 (F : Nat) (K : zK) (I : zI) (R : zR) (a0 : Nat)  (x1 : Int32) (x2 : Int32) (s0 : Int32) : Option (Int32) :=
  if (2 : Int32) ≤ x2 then
    zbd (some (R a0 22)) fun o4 =>
    zbd (zdr K o4 1) fun a5 =>
    zbd (zrd K I a5 x1) fun v8 =>
    f_X7_originOf_41 F K I R a0 x2 s0 v8
  else
    zbd (some (R a0 19)) fun o9 =>
    zbd (zdr K o9 1) fun a10 =>
    zbd (zrd K I a10 x1) fun v13 =>
    f_X7_originOf_41 F K I R a0 x2 s0 v13
def f_X7_originOf (F : Nat) (K : zK) (I : zI) (R : zR) (a0 : Nat) (x1 : Int32) (x2 : Int32) : Option (Int32) :=
  if (2 : Int32) ≤ x2 then
    zbd (some (R a0 23)) fun o15 =>
    zbd (zdr K o15 1) fun a16 =>
    zbd (zrd K I a16 x1) fun v19 =>
    f_X7_originOf_20 F K I R a0 x1 x2 v19
  else
    zbd (some (R a0 20)) fun o20 =>
    zbd (zdr K o20 1) fun a21 =>
    zbd (zrd K I a21 x1) fun v24 =>
    f_X7_originOf_20 F K I R a0 x1 x2 v24
section
variable {p : Program} {l : Launch} {e : Env} {s : State} {m : MethodId} {args : Array Value} {below : List Frame} {meth : Method} {c : Code} {D : zD} {B n n0 n' fd ld : Nat} {K K0 K' : zK} {I I' : zI} {R R' : zR} {H : Heap} {locs : List Loc} {ls : Array Slot} {r : Int32}
set_option maxRecDepth 100000 in
set_option maxHeartbeats 4000000 in
theorem w_X7_originOf_41 {F : Nat} {a0 : Nat}  (X : zX p s m c cX7_originOf 5 RX7 D) (hr : meth.sig.returnType = some .int) (hlk : meth.locks = false) (hK0 : (K a0).1 = 17)  {x2 : Int32} {x3 : Int32} {s0 : Int32} (hf : f_X7_originOf_41 F K I R a0  x2 x3 s0 = some r) (hW : zS (zOwn B K (B + n)) D B n K I R s.heap H locs) (hl : lv_has ls 5 [(0, .ref (B + a0)), (2, .int x2), (3, .int x3)]) : W p l e ({ frames := 1, cells := 0, slots := 0, locals := 40 } : Room) s m args below meth c H locs 0 0 (MQ below (zQi D (zOwn B K (B + n)) r B n K I R) args s 0 0 (zOwn B K (B + n))) (F0 m 41 ls [.int s0]) := by
  unfold f_X7_originOf_41 at hf
  refine lv_istore (lv' := [(4, .int s0), (0, .ref (B + a0)), (2, .int x2), (3, .int x3)]) X.1 X.2.1 dX7_originOf_41 hl (by decide) rfl (fun ls hk => ?_)
  replace hl := hk
  refine lv_iload_n X.1 X.2.1 dX7_originOf_43 rfl (lv_at hl 2 rfl) ?_
  refine lv_iconst (v := 2) X.1 X.2.1 dX7_originOf_44 (by decide) ?_
  refine lv_irem X.1 X.2.1 dX7_originOf_45 (by decide) ?_
  refine lv_iconst (v := 1) X.1 X.2.1 dX7_originOf_46 (by decide) ?_
  refine lv_icmp_ne (tgt := 54) X.1 X.2.1 dX7_originOf_47 (by decide) (fun c1 => ?_) (fun c1 => ?_)
  · replace hf := zif_neg c1 hf
    refine lv_iload_n X.1 X.2.1 dX7_originOf_54 rfl (lv_at hl 3 rfl) ?_
    refine lv_if_ne (tgt := 63) X.1 X.2.1 dX7_originOf_55 (by decide) (fun c2 => ?_) (fun c2 => ?_)
    · replace hf := zif_neg c2 hf
      refine lv_iload X.1 X.2.1 dX7_originOf_63 (lv_at hl 0 rfl) ?_
      obtain rfl := zi1 hf
      exact ze_retI X hr hlk hW (Nat.le_refl _) (Nat.le_refl _) dX7_originOf_65
    · replace hf := zif_pos c2 hf
      refine lv_bipush (v := -9) X.1 X.2.1 dX7_originOf_58 (by decide) ?_
      refine lv_goto (tgt := 65) X.1 X.2.1 dX7_originOf_60 (by decide) ?_
      obtain rfl := zi1 hf
      exact ze_retI X hr hlk hW (Nat.le_refl _) (Nat.le_refl _) dX7_originOf_65
  · replace hf := zif_pos c1 hf
    refine lv_iload_n X.1 X.2.1 dX7_originOf_50 rfl (lv_at hl 3 rfl) ?_
    refine lv_goto (tgt := 65) X.1 X.2.1 dX7_originOf_51 (by decide) ?_
    obtain rfl := zi1 hf
    exact ze_retI X hr hlk hW (Nat.le_refl _) (Nat.le_refl _) dX7_originOf_65
set_option maxRecDepth 100000 in
set_option maxHeartbeats 4000000 in
theorem w_X7_originOf_20 {F : Nat} {a0 : Nat}  (X : zX p s m c cX7_originOf 5 RX7 D) (hr : meth.sig.returnType = some .int) (hlk : meth.locks = false) (hK0 : (K a0).1 = 17)  {x1 : Int32} {x2 : Int32} {s0 : Int32} (hf : f_X7_originOf_20 F K I R a0  x1 x2 s0 = some r) (hW : zS (zOwn B K (B + n)) D B n K I R s.heap H locs) (hl : lv_has ls 5 [(0, .ref (B + a0)), (1, .int x1), (2, .int x2)]) : W p l e ({ frames := 1, cells := 0, slots := 0, locals := 40 } : Room) s m args below meth c H locs 0 0 (MQ below (zQi D (zOwn B K (B + n)) r B n K I R) args s 0 0 (zOwn B K (B + n))) (F0 m 20 ls [.int s0]) := by
  unfold f_X7_originOf_20 at hf
  refine lv_istore_n (i := 3) (lv' := [(3, .int s0), (0, .ref (B + a0)), (1, .int x1), (2, .int x2)]) X.1 X.2.1 dX7_originOf_20 rfl hl (by decide) rfl (fun ls hk => ?_)
  replace hl := hk
  refine lv_iload_n X.1 X.2.1 dX7_originOf_21 rfl (lv_at hl 3 rfl) ?_
  refine lv_iconst (v := 2) X.1 X.2.1 dX7_originOf_22 (by decide) ?_
  refine lv_icmp_ge (tgt := 35) X.1 X.2.1 dX7_originOf_23 (by decide) (fun c3 => ?_) (fun c3 => ?_)
  · replace hf := zif_pos c3 hf
    refine lv_aload_n X.1 X.2.1 dX7_originOf_35 rfl (lv_at hl 1 rfl) ?_
    refine ze_gtR X 7 22 60 (RX7, TX7, 39) rfl hf hW hK0 rfl (by decide) kfl_X7_60 dX7_originOf_36 (fun o4 hg => ?_)
    replace hf := hg
    refine lv_iload_n X.1 X.2.1 dX7_originOf_39 rfl (lv_at hl 2 rfl) ?_
    obtain ⟨a5, rfl, k7, hg⟩ := zh_dr hf
    replace hf := hg
    refine ze_iald X hf hW k7 dX7_originOf_40 (fun v8 hg => ?_)
    replace hf := hg
    exact w_X7_originOf_41 X hr hlk hK0 hf hW (lv_sub hl [1, 3, 0] rfl)
  · replace hf := zif_neg c3 hf
    refine lv_aload_n X.1 X.2.1 dX7_originOf_26 rfl (lv_at hl 1 rfl) ?_
    refine ze_gtR X 7 19 51 (RX7, TX7, 39) rfl hf hW hK0 rfl (by decide) kfl_X7_51 dX7_originOf_27 (fun o9 hg => ?_)
    replace hf := hg
    refine lv_iload_n X.1 X.2.1 dX7_originOf_30 rfl (lv_at hl 2 rfl) ?_
    obtain ⟨a10, rfl, k12, hg⟩ := zh_dr hf
    replace hf := hg
    refine ze_iald X hf hW k12 dX7_originOf_31 (fun v13 hg => ?_)
    replace hf := hg
    refine lv_goto (tgt := 41) X.1 X.2.1 dX7_originOf_32 (by decide) ?_
    exact w_X7_originOf_41 X hr hlk hK0 hf hW (lv_sub hl [1, 3, 0] rfl)
set_option maxRecDepth 100000 in
set_option maxHeartbeats 4000000 in
theorem c_X7_originOf (l : Launch) (D : zD) (B n : Nat) {F : Nat} {K : zK} {I : zI} {R : zR} {a0 : Nat} {x1 : Int32} {x2 : Int32} {r : Int32} (hK0 : (K a0).1 = 17) (hf : f_X7_originOf F K I R a0 x1 x2 = some r) : zM l yX7_originOf cX7_originOf 5 (some .int) ({ frames := 1, cells := 0, slots := 0, locals := 40 } : Room) D B n K I R [.ref (B + a0), .int x1, .int x2] (zQi D (zOwn B K (B + n)) r B n K I R) := by
  refine ze_entry (lv0 := [(0, .ref (B + a0)), (1, .int x1), (2, .int x2)]) (by decide) (by simp [lg_sl, zcat, zcat_i, zcat_r, zcat_l]) (by simp [lv_args, zcat, zcat_i, zcat_r, zcat_l]) (fun p e s m below meth c X hr hlk hin hW ls hl => ?_)
  unfold f_X7_originOf at hf
  refine lv_iload_n X.1 X.2.1 dX7_originOf_0 rfl (lv_at hl 2 rfl) ?_
  refine lv_iconst (v := 2) X.1 X.2.1 dX7_originOf_1 (by decide) ?_
  refine lv_icmp_ge (tgt := 14) X.1 X.2.1 dX7_originOf_2 (by decide) (fun c14 => ?_) (fun c14 => ?_)
  · replace hf := zif_pos c14 hf
    refine lv_aload_n X.1 X.2.1 dX7_originOf_14 rfl (lv_at hl 0 rfl) ?_
    refine ze_gtR X 7 23 63 (RX7, TX7, 39) rfl hf hW hK0 rfl (by decide) kfl_X7_63 dX7_originOf_15 (fun o15 hg => ?_)
    replace hf := hg
    refine lv_iload_n X.1 X.2.1 dX7_originOf_18 rfl (lv_at hl 1 rfl) ?_
    obtain ⟨a16, rfl, k18, hg⟩ := zh_dr hf
    replace hf := hg
    refine ze_iald X hf hW k18 dX7_originOf_19 (fun v19 hg => ?_)
    replace hf := hg
    exact w_X7_originOf_20 X hr hlk hK0 hf hW hl
  · replace hf := zif_neg c14 hf
    refine lv_aload_n X.1 X.2.1 dX7_originOf_5 rfl (lv_at hl 0 rfl) ?_
    refine ze_gtR X 7 20 54 (RX7, TX7, 39) rfl hf hW hK0 rfl (by decide) kfl_X7_54 dX7_originOf_6 (fun o20 hg => ?_)
    replace hf := hg
    refine lv_iload_n X.1 X.2.1 dX7_originOf_9 rfl (lv_at hl 1 rfl) ?_
    obtain ⟨a21, rfl, k23, hg⟩ := zh_dr hf
    replace hf := hg
    refine ze_iald X hf hW k23 dX7_originOf_10 (fun v24 hg => ?_)
    replace hf := hg
    refine lv_goto (tgt := 20) X.1 X.2.1 dX7_originOf_11 (by decide) ?_
    exact w_X7_originOf_20 X hr hlk hK0 hf hW hl
end

/-! LeastPatternsModel.origin(IIII)I -/
def f_X7_origin_28 (F : Nat) (K : zK) (R : zR) (a0 : Nat)  (I : zI) (x1 : Int32) (x2 : Int32) (x3 : Int32) (x4 : Int32) (s0 : Option Nat) (s1 : Int32) (s2 : Int32) (s3 : Int32) : Option (Int32 × zI) :=
  zbd (zdr K s0 17) fun a1 =>
  zbd (f_X7_wrong F K I R a1 s1 s2 s3) fun v4 =>
  if v4 = (0 : Int32) then
    zbd (some (zup I a0 16 (0 : Int32))) fun I7 =>
    zbd2 (f_X7_joins F K I7 R a0 ((97 : Int32) * x1) ((97 : Int32) * x2) (5460 : Int32)) fun v8 I9 =>
    if v8 = (0 : Int32) then
      some ((-3 : Int32), I9)
    else
      if (I9 a0 16) ≤ x3 then
        some ((-9 : Int32), I9)
      else
        zbd (f_X7_originOf F K I9 R a0 x3 x4) fun v13 =>
        some (v13, I9)
  else
    some (v4, I)
def f_X7_origin_27 (F : Nat) (K : zK) (R : zR) (a0 : Nat)  (I : zI) (x1 : Int32) (x2 : Int32) (x3 : Int32) (x4 : Int32) (s0 : Option Nat) (s1 : Int32) (s2 : Int32) : Option (Int32 × zI) :=
  f_X7_origin_28 F K R a0 I x1 x2 x3 x4 s0 s1 s2 (0 : Int32)
def f_X7_origin (F : Nat) (K : zK) (I : zI) (R : zR) (a0 : Nat) (x1 : Int32) (x2 : Int32) (x3 : Int32) (x4 : Int32) : Option (Int32 × zI) :=
  zbd (f_X7_in F K I R x3 (0 : Int32) (9 : Int32)) fun v15 =>
  if v15 = (0 : Int32) then
    f_X7_origin_27 F K R a0 I x1 x2 x3 x4 (some a0) x1 x2
  else
    zbd (f_X7_in F K I R x4 (0 : Int32) (3 : Int32)) fun v18 =>
    if v18 = (0 : Int32) then
      f_X7_origin_27 F K R a0 I x1 x2 x3 x4 (some a0) x1 x2
    else
      f_X7_origin_28 F K R a0 I x1 x2 x3 x4 (some a0) x1 x2 (1 : Int32)
section
variable {p : Program} {l : Launch} {e : Env} {s : State} {m : MethodId} {args : Array Value} {below : List Frame} {meth : Method} {c : Code} {D : zD} {B n n0 n' fd ld : Nat} {K K0 K' : zK} {I I' : zI} {R R' : zR} {H : Heap} {locs : List Loc} {ls : Array Slot} {r : Int32}
set_option maxRecDepth 100000 in
set_option maxHeartbeats 4000000 in
theorem w_X7_origin_28 {F : Nat} {a0 : Nat}  (X : zX p s m c cX7_origin 6 RX7 D) (hr : meth.sig.returnType = some .int) (hlk : meth.locks = false) (hK0 : (K a0).1 = 17)  {x1 : Int32} {x2 : Int32} {x3 : Int32} {x4 : Int32} {s0 : Option Nat} {s1 : Int32} {s2 : Int32} {s3 : Int32} (hf : f_X7_origin_28 F K R a0  I x1 x2 x3 x4 s0 s1 s2 s3 = some (r, I')) (hW : zS (zOwn B K (B + n)) D B n K I R s.heap H locs) (hl : lv_has ls 6 [(0, .ref (B + a0)), (1, .int x1), (2, .int x2), (3, .int x3), (4, .int x4)]) : W p l e ({ frames := 6, cells := 0, slots := 0, locals := 176 } : Room) s m args below meth c H locs 0 0 (MQ below (zQi D (zOwn B K (B + n)) r B n K I' R) args s 0 0 (zOwn B K (B + n))) (F0 m 28 ls [.int s3, .int s2, .int s1, zrf B s0]) := by
  unfold f_X7_origin_28 at hf
  obtain ⟨a1, rfl, k3, hg⟩ := zh_dr hf
  replace hf := hg
  obtain ⟨v4, h5, hg⟩ := zh_bd hf
  replace hf := hg
  refine ze_aftI0 (ze_runV (As := [.int s1, .int s2, .int s3]) (rest := []) X 7 254 (c_X7_wrong l D B n k3 h5) vX7_wrong kml_X7_254 hW k3 rfl rfl ⟨by decide, by decide⟩ rfl hl.1 rfl (Nat.le_of_ble_eq_true rfl) ⟨Nat.le_refl _, Nat.le_refl _⟩ dX7_origin_28) hW (fun H locs hV => ?_)
  replace hW := hV
  refine lv_istore (lv' := [(5, .int v4), (0, .ref (B + a0)), (1, .int x1), (2, .int x2), (3, .int x3), (4, .int x4)]) X.1 X.2.1 dX7_origin_31 hl (by decide) rfl (fun ls hk => ?_)
  replace hl := hk
  refine lv_iload X.1 X.2.1 dX7_origin_33 (lv_at hl 0 rfl) ?_
  refine lv_if_eq (tgt := 41) X.1 X.2.1 dX7_origin_35 (by decide) (fun c6 => ?_) (fun c6 => ?_)
  · replace hf := zif_pos c6 hf
    refine lv_aload_n X.1 X.2.1 dX7_origin_41 rfl (lv_at hl 1 rfl) ?_
    refine lv_iconst (v := 0) X.1 X.2.1 dX7_origin_42 (by decide) ?_
    refine ze_putI X 7 16 221 (RX7, TX7, 39) rfl hf hW hK0 rfl (by decide) kfl_X7_221 rfl (by decide +kernel) dX7_origin_43 (fun I7 H locs hg hV => ?_)
    replace hf := hg
    replace hW := hV
    refine lv_aload_n X.1 X.2.1 dX7_origin_46 rfl (lv_at hl 1 rfl) ?_
    refine lv_bipush (v := 97) X.1 X.2.1 dX7_origin_47 (by decide) ?_
    refine lv_iload_n X.1 X.2.1 dX7_origin_49 rfl (lv_at hl 2 rfl) ?_
    refine lv_imul X.1 X.2.1 dX7_origin_50 ?_
    refine lv_bipush (v := 97) X.1 X.2.1 dX7_origin_51 (by decide) ?_
    refine lv_iload_n X.1 X.2.1 dX7_origin_53 rfl (lv_at hl 3 rfl) ?_
    refine lv_imul X.1 X.2.1 dX7_origin_54 ?_
    refine lv_sipush (v := 5460) X.1 X.2.1 dX7_origin_55 (by decide) ?_
    obtain ⟨v8, I9, h10, hg⟩ := zh_bd2 hf
    replace hf := hg
    refine ze_aftI0 (ze_runV (As := [.int ((97 : Int32) * x1), .int ((97 : Int32) * x2), .int (5460 : Int32)]) (rest := []) X 7 258 (c_X7_joins l D B n hK0 h10) vX7_joins kml_X7_258 hW hK0 rfl rfl ⟨by decide, by decide⟩ rfl hl.1 rfl (Nat.le_of_ble_eq_true rfl) ⟨Nat.le_refl _, Nat.le_refl _⟩ dX7_origin_58) hW (fun H locs hV => ?_)
    replace hW := hV
    refine lv_if_ne (tgt := 67) X.1 X.2.1 dX7_origin_61 (by decide) (fun c11 => ?_) (fun c11 => ?_)
    · replace hf := zif_neg c11 hf
      refine lv_iload_n X.1 X.2.1 dX7_origin_67 rfl (lv_at hl 4 rfl) ?_
      refine lv_aload_n X.1 X.2.1 dX7_origin_68 rfl (lv_at hl 1 rfl) ?_
      refine ze_getI X 7 16 221 (RX7, TX7, 39) rfl hW hK0 rfl (by decide) kfl_X7_221 dX7_origin_69 ?_
      refine lv_icmp_ge (tgt := 85) X.1 X.2.1 dX7_origin_72 (by decide) (fun c12 => ?_) (fun c12 => ?_)
      · replace hf := zif_pos c12 hf
        refine lv_bipush (v := -9) X.1 X.2.1 dX7_origin_85 (by decide) ?_
        obtain ⟨rfl, rfl⟩ := zi2 hf
        exact ze_retI X hr hlk hW (Nat.le_refl _) (Nat.le_refl _) dX7_origin_87
      · replace hf := zif_neg c12 hf
        refine lv_aload_n X.1 X.2.1 dX7_origin_75 rfl (lv_at hl 1 rfl) ?_
        refine lv_iload_n X.1 X.2.1 dX7_origin_76 rfl (lv_at hl 4 rfl) ?_
        refine lv_iload X.1 X.2.1 dX7_origin_77 (lv_at hl 5 rfl) ?_
        obtain ⟨v13, h14, hg⟩ := zh_bd hf
        replace hf := hg
        refine ze_aftI0 (ze_runV (As := [.int x3, .int x4]) (rest := []) X 7 261 (c_X7_originOf l D B n hK0 h14) vX7_originOf kml_X7_261 hW hK0 rfl rfl ⟨by decide, by decide⟩ rfl hl.1 rfl (Nat.le_of_ble_eq_true rfl) ⟨Nat.le_refl _, Nat.le_refl _⟩ dX7_origin_79) hW (fun H locs hV => ?_)
        replace hW := hV
        refine lv_goto (tgt := 87) X.1 X.2.1 dX7_origin_82 (by decide) ?_
        obtain ⟨rfl, rfl⟩ := zi2 hf
        exact ze_retI X hr hlk hW (Nat.le_refl _) (Nat.le_refl _) dX7_origin_87
    · replace hf := zif_pos c11 hf
      refine lv_bipush (v := -3) X.1 X.2.1 dX7_origin_64 (by decide) ?_
      obtain ⟨rfl, rfl⟩ := zi2 hf
      exact ze_retI X hr hlk hW (Nat.le_refl _) (Nat.le_refl _) dX7_origin_66
  · replace hf := zif_neg c6 hf
    refine lv_iload X.1 X.2.1 dX7_origin_38 (lv_at hl 0 rfl) ?_
    obtain ⟨rfl, rfl⟩ := zi2 hf
    exact ze_retI X hr hlk hW (Nat.le_refl _) (Nat.le_refl _) dX7_origin_40
set_option maxRecDepth 100000 in
set_option maxHeartbeats 4000000 in
theorem w_X7_origin_27 {F : Nat} {a0 : Nat}  (X : zX p s m c cX7_origin 6 RX7 D) (hr : meth.sig.returnType = some .int) (hlk : meth.locks = false) (hK0 : (K a0).1 = 17)  {x1 : Int32} {x2 : Int32} {x3 : Int32} {x4 : Int32} {s0 : Option Nat} {s1 : Int32} {s2 : Int32} (hf : f_X7_origin_27 F K R a0  I x1 x2 x3 x4 s0 s1 s2 = some (r, I')) (hW : zS (zOwn B K (B + n)) D B n K I R s.heap H locs) (hl : lv_has ls 6 [(0, .ref (B + a0)), (1, .int x1), (2, .int x2), (3, .int x3), (4, .int x4)]) : W p l e ({ frames := 6, cells := 0, slots := 0, locals := 176 } : Room) s m args below meth c H locs 0 0 (MQ below (zQi D (zOwn B K (B + n)) r B n K I' R) args s 0 0 (zOwn B K (B + n))) (F0 m 27 ls [.int s2, .int s1, zrf B s0]) := by
  unfold f_X7_origin_27 at hf
  refine lv_iconst (v := 0) X.1 X.2.1 dX7_origin_27 (by decide) ?_
  exact w_X7_origin_28 X hr hlk hK0 hf hW hl
set_option maxRecDepth 100000 in
set_option maxHeartbeats 4000000 in
theorem c_X7_origin (l : Launch) (D : zD) (B n : Nat) {F : Nat} {K : zK} {I : zI} {R : zR} {a0 : Nat} {x1 : Int32} {x2 : Int32} {x3 : Int32} {x4 : Int32} {r : Int32} {I' : zI} (hK0 : (K a0).1 = 17) (hf : f_X7_origin F K I R a0 x1 x2 x3 x4 = some (r, I')) : zM l yX7_origin cX7_origin 6 (some .int) ({ frames := 6, cells := 0, slots := 0, locals := 176 } : Room) D B n K I R [.ref (B + a0), .int x1, .int x2, .int x3, .int x4] (zQi D (zOwn B K (B + n)) r B n K I' R) := by
  refine ze_entry (lv0 := [(0, .ref (B + a0)), (1, .int x1), (2, .int x2), (3, .int x3), (4, .int x4)]) (by decide) (by simp [lg_sl, zcat, zcat_i, zcat_r, zcat_l]) (by simp [lv_args, zcat, zcat_i, zcat_r, zcat_l]) (fun p e s m below meth c X hr hlk hin hW ls hl => ?_)
  unfold f_X7_origin at hf
  refine lv_aload_n X.1 X.2.1 dX7_origin_0 rfl (lv_at hl 0 rfl) ?_
  refine lv_iload_n X.1 X.2.1 dX7_origin_1 rfl (lv_at hl 1 rfl) ?_
  refine lv_iload_n X.1 X.2.1 dX7_origin_2 rfl (lv_at hl 2 rfl) ?_
  refine lv_iload_n X.1 X.2.1 dX7_origin_3 rfl (lv_at hl 3 rfl) ?_
  refine lv_iconst (v := 0) X.1 X.2.1 dX7_origin_4 (by decide) ?_
  refine lv_bipush (v := 9) X.1 X.2.1 dX7_origin_5 (by decide) ?_
  obtain ⟨v15, h16, hg⟩ := zh_bd hf
  replace hf := hg
  refine ze_aftI0 (ze_runS (As := [.int x3, .int (0 : Int32), .int (9 : Int32)]) (rest := [.int x2, .int x1, .ref (B + a0)]) X 122 (c_X7_in l D B n h16) vX7_in kml_X7_122 hW ⟨by decide, by decide⟩ rfl hl.1 rfl (Nat.le_of_ble_eq_true rfl) ⟨Nat.le_refl _, Nat.le_refl _⟩ dX7_origin_7) hW (fun H locs hV => ?_)
  replace hW := hV
  refine lv_if_eq (tgt := 27) X.1 X.2.1 dX7_origin_10 (by decide) (fun c17 => ?_) (fun c17 => ?_)
  · replace hf := zif_pos c17 hf
    exact w_X7_origin_27 X hr hlk hK0 hf hW hl
  · replace hf := zif_neg c17 hf
    refine lv_iload X.1 X.2.1 dX7_origin_13 (lv_at hl 4 rfl) ?_
    refine lv_iconst (v := 0) X.1 X.2.1 dX7_origin_15 (by decide) ?_
    refine lv_iconst (v := 3) X.1 X.2.1 dX7_origin_16 (by decide) ?_
    obtain ⟨v18, h19, hg⟩ := zh_bd hf
    replace hf := hg
    refine ze_aftI0 (ze_runS (As := [.int x4, .int (0 : Int32), .int (3 : Int32)]) (rest := [.int x2, .int x1, .ref (B + a0)]) X 122 (c_X7_in l D B n h19) vX7_in kml_X7_122 hW ⟨by decide, by decide⟩ rfl hl.1 rfl (Nat.le_of_ble_eq_true rfl) ⟨Nat.le_refl _, Nat.le_refl _⟩ dX7_origin_17) hW (fun H locs hV => ?_)
    replace hW := hV
    refine lv_if_eq (tgt := 27) X.1 X.2.1 dX7_origin_20 (by decide) (fun c20 => ?_) (fun c20 => ?_)
    · replace hf := zif_pos c20 hf
      exact w_X7_origin_27 X hr hlk hK0 hf hW hl
    · replace hf := zif_neg c20 hf
      refine lv_iconst (v := 1) X.1 X.2.1 dX7_origin_23 (by decide) ?_
      refine lv_goto (tgt := 28) X.1 X.2.1 dX7_origin_24 (by decide) ?_
      exact w_X7_origin_28 X hr hlk hK0 hf hW hl
end

/-! LeastPatternsModel.fills(IIZIII)Z -/
def f_X7_fills (F : Nat) (K : zK) (I : zI) (R : zR) (a0 : Nat) (x1 : Int32) (x2 : Int32) (x3 : Int32) (x4 : Int32) (x5 : Int32) (x6 : Int32) : Option (Int32 × zI) :=
  zbd (some (R a0 31)) fun o1 =>
  zbd (zdr K o1 1) fun a2 =>
  zbd (zrd K I a2 x2) fun v5 =>
  if (0 : Int32) ≤ v5 then
    if x3 = (0 : Int32) then
      zbd (some (R a0 31)) fun o8 =>
      zbd (zdr K o8 1) fun a9 =>
      zbd (zrd K I a9 x2) fun v12 =>
      if v12 = x5 then
        zbd (some (R a0 30)) fun o14 =>
        zbd (zdr K o14 1) fun a15 =>
        zbd (zrd K I a15 x2) fun v18 =>
        zbd (f_X7_isSame F K I R a0 x1 v18 x1 x4 x5) fun v19 =>
        if v19 = (0 : Int32) then
          some ((0 : Int32), I)
        else
          some ((1 : Int32), I)
      else
        some ((0 : Int32), I)
    else
      zbd (f_X7_sort F K I R a0 x1 x4) fun v22 =>
      zbd (some (R a0 30)) fun o24 =>
      zbd (zdr K o24 1) fun a25 =>
      zbd (zrd K I a25 x2) fun v28 =>
      zbd (f_X7_sort F K I R a0 x1 v28) fun v29 =>
      if v22 = v29 then
        zbd (f_X7_number F K I R a0 x1 x4) fun v32 =>
        zbd (some (R a0 30)) fun o34 =>
        zbd (zdr K o34 1) fun a35 =>
        zbd (zrd K I a35 x2) fun v38 =>
        zbd (f_X7_number F K I R a0 x1 v38) fun v39 =>
        if v32 = v39 then
          some ((1 : Int32), I)
        else
          some ((0 : Int32), I)
      else
        some ((0 : Int32), I)
  else
    zbd (some (R a0 30)) fun o42 =>
    zbd (zdr K o42 1) fun a43 =>
    zbd (zwr K I a43 x2 x4) fun I46 =>
    zbd (some (R a0 31)) fun o47 =>
    zbd (zdr K o47 1) fun a48 =>
    zbd (zwr K I46 a48 x2 x5) fun I51 =>
    zbd (some (R a0 32)) fun o52 =>
    zbd (zdr K o52 1) fun a53 =>
    zbd (zwr K I51 a53 x2 x6) fun I56 =>
    some ((1 : Int32), I56)
section
variable {p : Program} {l : Launch} {e : Env} {s : State} {m : MethodId} {args : Array Value} {below : List Frame} {meth : Method} {c : Code} {D : zD} {B n n0 n' fd ld : Nat} {K K0 K' : zK} {I I' : zI} {R R' : zR} {H : Heap} {locs : List Loc} {ls : Array Slot} {r : Int32}
set_option maxRecDepth 100000 in
set_option maxHeartbeats 4000000 in
theorem c_X7_fills (l : Launch) (D : zD) (B n : Nat) {F : Nat} {K : zK} {I : zI} {R : zR} {a0 : Nat} {x1 : Int32} {x2 : Int32} {x3 : Int32} {x4 : Int32} {x5 : Int32} {x6 : Int32} {r : Int32} {I' : zI} (hK0 : (K a0).1 = 17) (hf : f_X7_fills F K I R a0 x1 x2 x3 x4 x5 x6 = some (r, I')) : zM l yX7_fills cX7_fills 7 (some .boolean) ({ frames := 2, cells := 0, slots := 0, locals := 67 } : Room) D B n K I R [.ref (B + a0), .int x1, .int x2, .int x3, .int x4, .int x5, .int x6] (zQi D (zOwn B K (B + n)) r B n K I' R) := by
  refine ze_entry (lv0 := [(0, .ref (B + a0)), (1, .int x1), (2, .int x2), (3, .int x3), (4, .int x4), (5, .int x5), (6, .int x6)]) (by decide) (by simp [lg_sl, zcat, zcat_i, zcat_r, zcat_l]) (by simp [lv_args, zcat, zcat_i, zcat_r, zcat_l]) (fun p e s m below meth c X hr hlk hin hW ls hl => ?_)
  unfold f_X7_fills at hf
  refine lv_aload_n X.1 X.2.1 dX7_fills_0 rfl (lv_at hl 0 rfl) ?_
  refine ze_gtR X 7 31 84 (RX7, TX7, 39) rfl hf hW hK0 rfl (by decide) kfl_X7_84 dX7_fills_1 (fun o1 hg => ?_)
  replace hf := hg
  refine lv_iload_n X.1 X.2.1 dX7_fills_4 rfl (lv_at hl 2 rfl) ?_
  obtain ⟨a2, rfl, k4, hg⟩ := zh_dr hf
  replace hf := hg
  refine ze_iald X hf hW k4 dX7_fills_5 (fun v5 hg => ?_)
  replace hf := hg
  refine lv_if_ge (tgt := 35) X.1 X.2.1 dX7_fills_6 (by decide) (fun c6 => ?_) (fun c6 => ?_)
  · replace hf := zif_pos c6 hf
    refine lv_iload_n X.1 X.2.1 dX7_fills_35 rfl (lv_at hl 3 rfl) ?_
    refine lv_if_eq (tgt := 87) X.1 X.2.1 dX7_fills_36 (by decide) (fun c7 => ?_) (fun c7 => ?_)
    · replace hf := zif_pos c7 hf
      refine lv_aload_n X.1 X.2.1 dX7_fills_87 rfl (lv_at hl 0 rfl) ?_
      refine ze_gtR X 7 31 84 (RX7, TX7, 39) rfl hf hW hK0 rfl (by decide) kfl_X7_84 dX7_fills_88 (fun o8 hg => ?_)
      replace hf := hg
      refine lv_iload_n X.1 X.2.1 dX7_fills_91 rfl (lv_at hl 2 rfl) ?_
      obtain ⟨a9, rfl, k11, hg⟩ := zh_dr hf
      replace hf := hg
      refine ze_iald X hf hW k11 dX7_fills_92 (fun v12 hg => ?_)
      replace hf := hg
      refine lv_iload X.1 X.2.1 dX7_fills_93 (lv_at hl 5 rfl) ?_
      refine lv_icmp_ne (tgt := 121) X.1 X.2.1 dX7_fills_95 (by decide) (fun c13 => ?_) (fun c13 => ?_)
      · replace hf := zif_neg c13 hf
        refine lv_iconst (v := 0) X.1 X.2.1 dX7_fills_121 (by decide) ?_
        obtain ⟨rfl, rfl⟩ := zi2 hf
        exact ze_retZ X hr hlk (by decide) hW (Nat.le_refl _) (Nat.le_refl _) dX7_fills_122
      · replace hf := zif_pos c13 hf
        refine lv_aload_n X.1 X.2.1 dX7_fills_98 rfl (lv_at hl 0 rfl) ?_
        refine lv_iload_n X.1 X.2.1 dX7_fills_99 rfl (lv_at hl 1 rfl) ?_
        refine lv_aload_n X.1 X.2.1 dX7_fills_100 rfl (lv_at hl 0 rfl) ?_
        refine ze_gtR X 7 30 81 (RX7, TX7, 39) rfl hf hW hK0 rfl (by decide) kfl_X7_81 dX7_fills_101 (fun o14 hg => ?_)
        replace hf := hg
        refine lv_iload_n X.1 X.2.1 dX7_fills_104 rfl (lv_at hl 2 rfl) ?_
        obtain ⟨a15, rfl, k17, hg⟩ := zh_dr hf
        replace hf := hg
        refine ze_iald X hf hW k17 dX7_fills_105 (fun v18 hg => ?_)
        replace hf := hg
        refine lv_iload_n X.1 X.2.1 dX7_fills_106 rfl (lv_at hl 1 rfl) ?_
        refine lv_iload X.1 X.2.1 dX7_fills_107 (lv_at hl 4 rfl) ?_
        refine lv_iload X.1 X.2.1 dX7_fills_109 (lv_at hl 5 rfl) ?_
        obtain ⟨v19, h20, hg⟩ := zh_bd hf
        replace hf := hg
        refine ze_aftI0 (ze_runV (As := [.int x1, .int v18, .int x1, .int x4, .int x5]) (rest := []) X 7 217 (c_X7_isSame l D B n hK0 h20) vX7_isSame kml_X7_217 hW hK0 rfl rfl ⟨by decide, by decide⟩ rfl hl.1 rfl (Nat.le_of_ble_eq_true rfl) ⟨Nat.le_refl _, Nat.le_refl _⟩ dX7_fills_111) hW (fun H locs hV => ?_)
        replace hW := hV
        refine lv_if_eq (tgt := 121) X.1 X.2.1 dX7_fills_114 (by decide) (fun c21 => ?_) (fun c21 => ?_)
        · replace hf := zif_pos c21 hf
          refine lv_iconst (v := 0) X.1 X.2.1 dX7_fills_121 (by decide) ?_
          obtain ⟨rfl, rfl⟩ := zi2 hf
          exact ze_retZ X hr hlk (by decide) hW (Nat.le_refl _) (Nat.le_refl _) dX7_fills_122
        · replace hf := zif_neg c21 hf
          refine lv_iconst (v := 1) X.1 X.2.1 dX7_fills_117 (by decide) ?_
          refine lv_goto (tgt := 122) X.1 X.2.1 dX7_fills_118 (by decide) ?_
          obtain ⟨rfl, rfl⟩ := zi2 hf
          exact ze_retZ X hr hlk (by decide) hW (Nat.le_refl _) (Nat.le_refl _) dX7_fills_122
    · replace hf := zif_neg c7 hf
      refine lv_aload_n X.1 X.2.1 dX7_fills_39 rfl (lv_at hl 0 rfl) ?_
      refine lv_iload_n X.1 X.2.1 dX7_fills_40 rfl (lv_at hl 1 rfl) ?_
      refine lv_iload X.1 X.2.1 dX7_fills_41 (lv_at hl 4 rfl) ?_
      obtain ⟨v22, h23, hg⟩ := zh_bd hf
      replace hf := hg
      refine ze_aftI0 (ze_runV (As := [.int x1, .int x4]) (rest := []) X 7 119 (c_X7_sort l D B n hK0 h23) vX7_sort kml_X7_119 hW hK0 rfl rfl ⟨by decide, by decide⟩ rfl hl.1 rfl (Nat.le_of_ble_eq_true rfl) ⟨Nat.le_refl _, Nat.le_refl _⟩ dX7_fills_43) hW (fun H locs hV => ?_)
      replace hW := hV
      refine lv_aload_n X.1 X.2.1 dX7_fills_46 rfl (lv_at hl 0 rfl) ?_
      refine lv_iload_n X.1 X.2.1 dX7_fills_47 rfl (lv_at hl 1 rfl) ?_
      refine lv_aload_n X.1 X.2.1 dX7_fills_48 rfl (lv_at hl 0 rfl) ?_
      refine ze_gtR X 7 30 81 (RX7, TX7, 39) rfl hf hW hK0 rfl (by decide) kfl_X7_81 dX7_fills_49 (fun o24 hg => ?_)
      replace hf := hg
      refine lv_iload_n X.1 X.2.1 dX7_fills_52 rfl (lv_at hl 2 rfl) ?_
      obtain ⟨a25, rfl, k27, hg⟩ := zh_dr hf
      replace hf := hg
      refine ze_iald X hf hW k27 dX7_fills_53 (fun v28 hg => ?_)
      replace hf := hg
      obtain ⟨v29, h30, hg⟩ := zh_bd hf
      replace hf := hg
      refine ze_aftI0 (ze_runV (As := [.int x1, .int v28]) (rest := [.int v22]) X 7 119 (c_X7_sort l D B n hK0 h30) vX7_sort kml_X7_119 hW hK0 rfl rfl ⟨by decide, by decide⟩ rfl hl.1 rfl (Nat.le_of_ble_eq_true rfl) ⟨Nat.le_refl _, Nat.le_refl _⟩ dX7_fills_54) hW (fun H locs hV => ?_)
      replace hW := hV
      refine lv_icmp_ne (tgt := 85) X.1 X.2.1 dX7_fills_57 (by decide) (fun c31 => ?_) (fun c31 => ?_)
      · replace hf := zif_neg c31 hf
        refine lv_iconst (v := 0) X.1 X.2.1 dX7_fills_85 (by decide) ?_
        obtain ⟨rfl, rfl⟩ := zi2 hf
        exact ze_retZ X hr hlk (by decide) hW (Nat.le_refl _) (Nat.le_refl _) dX7_fills_86
      · replace hf := zif_pos c31 hf
        refine lv_aload_n X.1 X.2.1 dX7_fills_60 rfl (lv_at hl 0 rfl) ?_
        refine lv_iload_n X.1 X.2.1 dX7_fills_61 rfl (lv_at hl 1 rfl) ?_
        refine lv_iload X.1 X.2.1 dX7_fills_62 (lv_at hl 4 rfl) ?_
        obtain ⟨v32, h33, hg⟩ := zh_bd hf
        replace hf := hg
        refine ze_aftI0 (ze_runV (As := [.int x1, .int x4]) (rest := []) X 7 159 (c_X7_number l D B n hK0 h33) vX7_number kml_X7_159 hW hK0 rfl rfl ⟨by decide, by decide⟩ rfl hl.1 rfl (Nat.le_of_ble_eq_true rfl) ⟨Nat.le_refl _, Nat.le_refl _⟩ dX7_fills_64) hW (fun H locs hV => ?_)
        replace hW := hV
        refine lv_aload_n X.1 X.2.1 dX7_fills_67 rfl (lv_at hl 0 rfl) ?_
        refine lv_iload_n X.1 X.2.1 dX7_fills_68 rfl (lv_at hl 1 rfl) ?_
        refine lv_aload_n X.1 X.2.1 dX7_fills_69 rfl (lv_at hl 0 rfl) ?_
        refine ze_gtR X 7 30 81 (RX7, TX7, 39) rfl hf hW hK0 rfl (by decide) kfl_X7_81 dX7_fills_70 (fun o34 hg => ?_)
        replace hf := hg
        refine lv_iload_n X.1 X.2.1 dX7_fills_73 rfl (lv_at hl 2 rfl) ?_
        obtain ⟨a35, rfl, k37, hg⟩ := zh_dr hf
        replace hf := hg
        refine ze_iald X hf hW k37 dX7_fills_74 (fun v38 hg => ?_)
        replace hf := hg
        obtain ⟨v39, h40, hg⟩ := zh_bd hf
        replace hf := hg
        refine ze_aftI0 (ze_runV (As := [.int x1, .int v38]) (rest := [.int v32]) X 7 159 (c_X7_number l D B n hK0 h40) vX7_number kml_X7_159 hW hK0 rfl rfl ⟨by decide, by decide⟩ rfl hl.1 rfl (Nat.le_of_ble_eq_true rfl) ⟨Nat.le_refl _, Nat.le_refl _⟩ dX7_fills_75) hW (fun H locs hV => ?_)
        replace hW := hV
        refine lv_icmp_ne (tgt := 85) X.1 X.2.1 dX7_fills_78 (by decide) (fun c41 => ?_) (fun c41 => ?_)
        · replace hf := zif_neg c41 hf
          refine lv_iconst (v := 0) X.1 X.2.1 dX7_fills_85 (by decide) ?_
          obtain ⟨rfl, rfl⟩ := zi2 hf
          exact ze_retZ X hr hlk (by decide) hW (Nat.le_refl _) (Nat.le_refl _) dX7_fills_86
        · replace hf := zif_pos c41 hf
          refine lv_iconst (v := 1) X.1 X.2.1 dX7_fills_81 (by decide) ?_
          refine lv_goto (tgt := 86) X.1 X.2.1 dX7_fills_82 (by decide) ?_
          obtain ⟨rfl, rfl⟩ := zi2 hf
          exact ze_retZ X hr hlk (by decide) hW (Nat.le_refl _) (Nat.le_refl _) dX7_fills_86
  · replace hf := zif_neg c6 hf
    refine lv_aload_n X.1 X.2.1 dX7_fills_9 rfl (lv_at hl 0 rfl) ?_
    refine ze_gtR X 7 30 81 (RX7, TX7, 39) rfl hf hW hK0 rfl (by decide) kfl_X7_81 dX7_fills_10 (fun o42 hg => ?_)
    replace hf := hg
    refine lv_iload_n X.1 X.2.1 dX7_fills_13 rfl (lv_at hl 2 rfl) ?_
    refine lv_iload X.1 X.2.1 dX7_fills_14 (lv_at hl 4 rfl) ?_
    obtain ⟨a43, rfl, k45, hg⟩ := zh_dr hf
    replace hf := hg
    refine ze_iast X hf hW k45 dX7_fills_16 (fun I46 H locs hg hV => ?_)
    replace hf := hg
    replace hW := hV
    refine lv_aload_n X.1 X.2.1 dX7_fills_17 rfl (lv_at hl 0 rfl) ?_
    refine ze_gtR X 7 31 84 (RX7, TX7, 39) rfl hf hW hK0 rfl (by decide) kfl_X7_84 dX7_fills_18 (fun o47 hg => ?_)
    replace hf := hg
    refine lv_iload_n X.1 X.2.1 dX7_fills_21 rfl (lv_at hl 2 rfl) ?_
    refine lv_iload X.1 X.2.1 dX7_fills_22 (lv_at hl 5 rfl) ?_
    obtain ⟨a48, rfl, k50, hg⟩ := zh_dr hf
    replace hf := hg
    refine ze_iast X hf hW k50 dX7_fills_24 (fun I51 H locs hg hV => ?_)
    replace hf := hg
    replace hW := hV
    refine lv_aload_n X.1 X.2.1 dX7_fills_25 rfl (lv_at hl 0 rfl) ?_
    refine ze_gtR X 7 32 87 (RX7, TX7, 39) rfl hf hW hK0 rfl (by decide) kfl_X7_87 dX7_fills_26 (fun o52 hg => ?_)
    replace hf := hg
    refine lv_iload_n X.1 X.2.1 dX7_fills_29 rfl (lv_at hl 2 rfl) ?_
    refine lv_iload X.1 X.2.1 dX7_fills_30 (lv_at hl 6 rfl) ?_
    obtain ⟨a53, rfl, k55, hg⟩ := zh_dr hf
    replace hf := hg
    refine ze_iast X hf hW k55 dX7_fills_32 (fun I56 H locs hg hV => ?_)
    replace hf := hg
    replace hW := hV
    refine lv_iconst (v := 1) X.1 X.2.1 dX7_fills_33 (by decide) ?_
    obtain ⟨rfl, rfl⟩ := zi2 hf
    exact ze_retZ X hr hlk (by decide) hW (Nat.le_refl _) (Nat.le_refl _) dX7_fills_34
end

/-! LeastPatternsModel.matchesArguments(IIII)Z -/
def g_X7_matchesArguments_204 (F : Nat) (K : zK) (R : zR) (a0 : Nat)  (kself : zI → Int32 → Int32 → Int32 → Option (Int32 × zI)) (I : zI) (x2 : Int32) (x4 : Int32) (x10 : Int32) : Option (Int32 × zI) :=
  if x10 < (0 : Int32) then
    some ((1 : Int32), I)
  else
    zbd (some (R a0 5)) fun o2 =>
    zbd (f_X7_child F K I R a0 x2 x10 o2) fun v3 =>
    zbd (some (R a0 6)) fun o5 =>
    zbd (f_X7_child F K I R a0 x4 x10 o5) fun v6 =>
    zbd (f_X7_pushes F K I R a0 (0 : Int32) v3 (0 : Int32) v6 (0 : Int32)) fun I8 =>
    kself I8 x2 x4 (x10 + (-1 : Int32))
def f_X7_matchesArguments_204 (F : Nat) (K : zK) (R : zR) (a0 : Nat)  : Nat → zI → Int32 → Int32 → Int32 → Option (Int32 × zI)
  | 0, _, _, _, _ => none
  | t + 1, I, x2, x4, x10 => g_X7_matchesArguments_204 F K R a0  (f_X7_matchesArguments_204 F K R a0  t) I x2 x4 x10
def g_X7_matchesArguments_88 (F : Nat) (K : zK) (R : zR) (a0 : Nat)  (kself : zI → Int32 → Int32 → Int32 → Int32 → Int32 → Int32 → Int32 → Option (Int32 × zI)) (I : zI) (x2 : Int32) (x4 : Int32) (x5 : Int32) (x6 : Int32) (x7 : Int32) (x8 : Int32) (x9 : Int32) : Option (Int32 × zI) :=
  if x8 ≤ x9 then
    zbd (some (R a0 6)) fun o11 =>
    zbd (f_X7_child F K I R a0 x4 x7 o11) fun v12 =>
    zbd (some (R a0 5)) fun o14 =>
    zbd (f_X7_child F K I R a0 x2 x7 o14) fun v15 =>
    zbd (some (R a0 6)) fun o17 =>
    zbd (f_X7_child F K I R a0 x4 (x6 - x8) o17) fun v18 =>
    zbd (f_X7_pushes F K I R a0 (1 : Int32) v15 ((x6 - x5) + (1 : Int32)) v12 (v18 - v12)) fun I20 =>
    zbd (some (x7 - (1 : Int32))) fun v22 =>
    f_X7_matchesArguments_204 F K R a0 F I20 x2 x4 v22
  else
    zbd (some (R a0 5)) fun o23 =>
    zbd (f_X7_child F K I R a0 x2 ((x5 - (1 : Int32)) - x9) o23) fun v24 =>
    zbd (some (R a0 6)) fun o26 =>
    zbd (f_X7_child F K I R a0 x4 ((x6 - (1 : Int32)) - x9) o26) fun v27 =>
    zbd (f_X7_pushes F K I R a0 (0 : Int32) v24 (0 : Int32) v27 (0 : Int32)) fun I29 =>
    kself I29 x2 x4 x5 x6 x7 x8 (x9 + (1 : Int32))
def f_X7_matchesArguments_88 (F : Nat) (K : zK) (R : zR) (a0 : Nat)  : Nat → zI → Int32 → Int32 → Int32 → Int32 → Int32 → Int32 → Int32 → Option (Int32 × zI)
  | 0, _, _, _, _, _, _, _, _ => none
  | t + 1, I, x2, x4, x5, x6, x7, x8, x9 => g_X7_matchesArguments_88 F K R a0  (f_X7_matchesArguments_88 F K R a0  t) I x2 x4 x5 x6 x7 x8 x9
def f_X7_matchesArguments_52 (F : Nat) (K : zK) (R : zR) (a0 : Nat)  (I : zI) (x5 : Int32) (x6 : Int32) : Option (Int32 × zI) :=
  if x5 = x6 then
    some ((1 : Int32), I)
  else
    some ((0 : Int32), I)
def f_X7_matchesArguments (F : Nat) (K : zK) (I : zI) (R : zR) (a0 : Nat) (x1 : Int32) (x2 : Int32) (x3 : Int32) (x4 : Int32) : Option (Int32 × zI) :=
  zbd (f_X7_arguments F K I R a0 x1 x2) fun v32 =>
  zbd (f_X7_arguments F K I R a0 x3 x4) fun v34 =>
  zbd (some (R a0 5)) fun o36 =>
  zbd (f_X7_sequenceOf F K I R a0 x1 x2 o36) fun v37 =>
  if v37 = (-9 : Int32) then
    if v32 = v34 then
      zbd (f_X7_pushesEven F K I R a0 x2 x4 v34) fun I43 =>
      f_X7_matchesArguments_52 F K R a0 I43 v32 v34
    else
      f_X7_matchesArguments_52 F K R a0 I v32 v34
  else
    zbd (some ((v32 - (1 : Int32)) - v37)) fun v40 =>
    if (v32 - (1 : Int32)) ≤ v34 then
      f_X7_matchesArguments_88 F K R a0 F I x2 x4 v32 v34 v37 v40 (0 : Int32)
    else
      some ((0 : Int32), I)
section
variable {p : Program} {l : Launch} {e : Env} {s : State} {m : MethodId} {args : Array Value} {below : List Frame} {meth : Method} {c : Code} {D : zD} {B n n0 n' fd ld : Nat} {K K0 K' : zK} {I I' : zI} {R R' : zR} {H : Heap} {locs : List Loc} {ls : Array Slot} {r : Int32}
set_option maxRecDepth 100000 in
set_option maxHeartbeats 4000000 in
theorem wg_X7_matchesArguments_204 {F : Nat} {a0 : Nat}  (X : zX p s m c cX7_matchesArguments 11 RX7 D) (hr : meth.sig.returnType = some .boolean) (hlk : meth.locks = false) (hK0 : (K a0).1 = 17)  {kself : zI → Int32 → Int32 → Int32 → Option (Int32 × zI)} (hkself : ∀ (I : zI) (x2 : Int32) (x4 : Int32) (x10 : Int32) (H : Heap) (locs : List Loc) (ls : Array Slot), kself I x2 x4 x10 = some (r, I') → zS (zOwn B K (B + n)) D B n K I R s.heap H locs → lv_has ls 11 [(0, .ref (B + a0)), (2, .int x2), (4, .int x4), (10, .int x10)] → W p l e ({ frames := 3, cells := 0, slots := 0, locals := 89 } : Room) s m args below meth c H locs 0 0 (MQ below (zQi D (zOwn B K (B + n)) r B n K I' R) args s 0 0 (zOwn B K (B + n))) (F0 m 204 ls [])) {x2 : Int32} {x4 : Int32} {x10 : Int32} (hf : g_X7_matchesArguments_204 F K R a0  kself I x2 x4 x10 = some (r, I')) (hW : zS (zOwn B K (B + n)) D B n K I R s.heap H locs) (hl : lv_has ls 11 [(0, .ref (B + a0)), (2, .int x2), (4, .int x4), (10, .int x10)]) : W p l e ({ frames := 3, cells := 0, slots := 0, locals := 89 } : Room) s m args below meth c H locs 0 0 (MQ below (zQi D (zOwn B K (B + n)) r B n K I' R) args s 0 0 (zOwn B K (B + n))) (F0 m 204 ls []) := by
  unfold g_X7_matchesArguments_204 at hf
  refine lv_iload X.1 X.2.1 dX7_matchesArguments_204 (lv_at hl 3 rfl) ?_
  refine lv_if_lt (tgt := 245) X.1 X.2.1 dX7_matchesArguments_206 (by decide) (fun c1 => ?_) (fun c1 => ?_)
  · replace hf := zif_pos c1 hf
    refine lv_iconst (v := 1) X.1 X.2.1 dX7_matchesArguments_245 (by decide) ?_
    obtain ⟨rfl, rfl⟩ := zi2 hf
    exact ze_retZ X hr hlk (by decide) hW (Nat.le_refl _) (Nat.le_refl _) dX7_matchesArguments_246
  · replace hf := zif_neg c1 hf
    refine lv_aload_n X.1 X.2.1 dX7_matchesArguments_209 rfl (lv_at hl 0 rfl) ?_
    refine lv_iconst (v := 0) X.1 X.2.1 dX7_matchesArguments_210 (by decide) ?_
    refine lv_aload_n X.1 X.2.1 dX7_matchesArguments_211 rfl (lv_at hl 0 rfl) ?_
    refine lv_iload_n X.1 X.2.1 dX7_matchesArguments_212 rfl (lv_at hl 1 rfl) ?_
    refine lv_iload X.1 X.2.1 dX7_matchesArguments_213 (lv_at hl 3 rfl) ?_
    refine lv_aload_n X.1 X.2.1 dX7_matchesArguments_215 rfl (lv_at hl 0 rfl) ?_
    refine ze_gtR X 7 5 20 (RX7, TX7, 39) rfl hf hW hK0 rfl (by decide) kfl_X7_20 dX7_matchesArguments_216 (fun o2 hg => ?_)
    replace hf := hg
    obtain ⟨v3, h4, hg⟩ := zh_bd hf
    replace hf := hg
    refine ze_aftI0 (ze_runV (As := [.int x2, .int x10, zrf B o2]) (rest := [.int (0 : Int32), .ref (B + a0)]) X 7 165 (c_X7_child l D B n hK0 h4) vX7_child kml_X7_165 hW hK0 rfl rfl ⟨by decide, by decide⟩ rfl hl.1 rfl (Nat.le_of_ble_eq_true rfl) ⟨Nat.le_refl _, Nat.le_refl _⟩ dX7_matchesArguments_219) hW (fun H locs hV => ?_)
    replace hW := hV
    refine lv_iconst (v := 0) X.1 X.2.1 dX7_matchesArguments_222 (by decide) ?_
    refine lv_aload_n X.1 X.2.1 dX7_matchesArguments_223 rfl (lv_at hl 0 rfl) ?_
    refine lv_iload X.1 X.2.1 dX7_matchesArguments_224 (lv_at hl 2 rfl) ?_
    refine lv_iload X.1 X.2.1 dX7_matchesArguments_226 (lv_at hl 3 rfl) ?_
    refine lv_aload_n X.1 X.2.1 dX7_matchesArguments_228 rfl (lv_at hl 0 rfl) ?_
    refine ze_gtR X 7 6 23 (RX7, TX7, 39) rfl hf hW hK0 rfl (by decide) kfl_X7_23 dX7_matchesArguments_229 (fun o5 hg => ?_)
    replace hf := hg
    obtain ⟨v6, h7, hg⟩ := zh_bd hf
    replace hf := hg
    refine ze_aftI0 (ze_runV (As := [.int x4, .int x10, zrf B o5]) (rest := [.int (0 : Int32), .int v3, .int (0 : Int32), .ref (B + a0)]) X 7 165 (c_X7_child l D B n hK0 h7) vX7_child kml_X7_165 hW hK0 rfl rfl ⟨by decide, by decide⟩ rfl hl.1 rfl (Nat.le_of_ble_eq_true rfl) ⟨Nat.le_refl _, Nat.le_refl _⟩ dX7_matchesArguments_232) hW (fun H locs hV => ?_)
    replace hW := hV
    refine lv_iconst (v := 0) X.1 X.2.1 dX7_matchesArguments_235 (by decide) ?_
    obtain ⟨I8, h9, hg⟩ := zh_bd hf
    replace hf := hg
    refine ze_aftV0 (ze_runV (As := [.int (0 : Int32), .int v3, .int (0 : Int32), .int v6, .int (0 : Int32)]) (rest := []) X 7 231 (c_X7_pushes l D B n hK0 h9) vX7_pushes kml_X7_231 hW hK0 rfl rfl ⟨by decide, by decide⟩ rfl hl.1 rfl (Nat.le_of_ble_eq_true rfl) ⟨Nat.le_refl _, Nat.le_refl _⟩ dX7_matchesArguments_236) hW (fun H locs hV => ?_)
    replace hW := hV
    refine ze_iinc (lv' := [(10, .int (x10 + (-1 : Int32))), (0, .ref (B + a0)), (2, .int x2), (4, .int x4)]) (d := -1) X.1 X.2.1 dX7_matchesArguments_239 hl (k := 3) rfl (by decide) (by decide) rfl (fun ls hk => ?_)
    replace hl := hk
    refine lv_goto (tgt := 204) X.1 X.2.1 dX7_matchesArguments_242 (by decide) ?_
    exact hkself _ _ _ _ _ _ _ hf hW (lv_sub hl [1, 2, 3, 0] rfl)
set_option maxRecDepth 100000 in
set_option maxHeartbeats 4000000 in
theorem w_X7_matchesArguments_204 {F : Nat} {a0 : Nat}  (X : zX p s m c cX7_matchesArguments 11 RX7 D) (hr : meth.sig.returnType = some .boolean) (hlk : meth.locks = false) (hK0 : (K a0).1 = 17)  {t : Nat} {x2 : Int32} {x4 : Int32} {x10 : Int32} (hf : f_X7_matchesArguments_204 F K R a0  t I x2 x4 x10 = some (r, I')) (hW : zS (zOwn B K (B + n)) D B n K I R s.heap H locs) (hl : lv_has ls 11 [(0, .ref (B + a0)), (2, .int x2), (4, .int x4), (10, .int x10)]) : W p l e ({ frames := 3, cells := 0, slots := 0, locals := 89 } : Room) s m args below meth c H locs 0 0 (MQ below (zQi D (zOwn B K (B + n)) r B n K I' R) args s 0 0 (zOwn B K (B + n))) (F0 m 204 ls []) := by
  have key : ∀ t : Nat, ∀ (I : zI) (x2 : Int32) (x4 : Int32) (x10 : Int32) (H : Heap) (locs : List Loc) (ls : Array Slot), f_X7_matchesArguments_204 F K R a0  t I x2 x4 x10 = some (r, I') → zS (zOwn B K (B + n)) D B n K I R s.heap H locs → lv_has ls 11 [(0, .ref (B + a0)), (2, .int x2), (4, .int x4), (10, .int x10)] → W p l e ({ frames := 3, cells := 0, slots := 0, locals := 89 } : Room) s m args below meth c H locs 0 0 (MQ below (zQi D (zOwn B K (B + n)) r B n K I' R) args s 0 0 (zOwn B K (B + n))) (F0 m 204 ls []) := by
    intro t
    induction t with
    | zero =>
      intro I x2 x4 x10 H locs ls hf hW hl
      cases hf
    | succ t ih =>
      intro I x2 x4 x10 H locs ls hf hW hl
      exact wg_X7_matchesArguments_204 X hr hlk hK0  ih hf hW hl
  exact key t _ _ _ _ _ _ _ hf hW hl
set_option maxRecDepth 100000 in
set_option maxHeartbeats 4000000 in
theorem wg_X7_matchesArguments_88 {F : Nat} {a0 : Nat}  (X : zX p s m c cX7_matchesArguments 11 RX7 D) (hr : meth.sig.returnType = some .boolean) (hlk : meth.locks = false) (hK0 : (K a0).1 = 17)  {kself : zI → Int32 → Int32 → Int32 → Int32 → Int32 → Int32 → Int32 → Option (Int32 × zI)} (hkself : ∀ (I : zI) (x2 : Int32) (x4 : Int32) (x5 : Int32) (x6 : Int32) (x7 : Int32) (x8 : Int32) (x9 : Int32) (H : Heap) (locs : List Loc) (ls : Array Slot), kself I x2 x4 x5 x6 x7 x8 x9 = some (r, I') → zS (zOwn B K (B + n)) D B n K I R s.heap H locs → lv_has ls 11 [(0, .ref (B + a0)), (2, .int x2), (4, .int x4), (5, .int x5), (6, .int x6), (7, .int x7), (8, .int x8), (9, .int x9)] → W p l e ({ frames := 3, cells := 0, slots := 0, locals := 89 } : Room) s m args below meth c H locs 0 0 (MQ below (zQi D (zOwn B K (B + n)) r B n K I' R) args s 0 0 (zOwn B K (B + n))) (F0 m 88 ls [])) {x2 : Int32} {x4 : Int32} {x5 : Int32} {x6 : Int32} {x7 : Int32} {x8 : Int32} {x9 : Int32} (hf : g_X7_matchesArguments_88 F K R a0  kself I x2 x4 x5 x6 x7 x8 x9 = some (r, I')) (hW : zS (zOwn B K (B + n)) D B n K I R s.heap H locs) (hl : lv_has ls 11 [(0, .ref (B + a0)), (2, .int x2), (4, .int x4), (5, .int x5), (6, .int x6), (7, .int x7), (8, .int x8), (9, .int x9)]) : W p l e ({ frames := 3, cells := 0, slots := 0, locals := 89 } : Room) s m args below meth c H locs 0 0 (MQ below (zQi D (zOwn B K (B + n)) r B n K I' R) args s 0 0 (zOwn B K (B + n))) (F0 m 88 ls []) := by
  unfold g_X7_matchesArguments_88 at hf
  refine lv_iload X.1 X.2.1 dX7_matchesArguments_88 (lv_at hl 7 rfl) ?_
  refine lv_iload X.1 X.2.1 dX7_matchesArguments_90 (lv_at hl 6 rfl) ?_
  refine lv_icmp_ge (tgt := 141) X.1 X.2.1 dX7_matchesArguments_92 (by decide) (fun c10 => ?_) (fun c10 => ?_)
  · replace hf := zif_pos c10 hf
    refine lv_aload_n X.1 X.2.1 dX7_matchesArguments_141 rfl (lv_at hl 0 rfl) ?_
    refine lv_iload X.1 X.2.1 dX7_matchesArguments_142 (lv_at hl 2 rfl) ?_
    refine lv_iload X.1 X.2.1 dX7_matchesArguments_144 (lv_at hl 5 rfl) ?_
    refine lv_aload_n X.1 X.2.1 dX7_matchesArguments_146 rfl (lv_at hl 0 rfl) ?_
    refine ze_gtR X 7 6 23 (RX7, TX7, 39) rfl hf hW hK0 rfl (by decide) kfl_X7_23 dX7_matchesArguments_147 (fun o11 hg => ?_)
    replace hf := hg
    obtain ⟨v12, h13, hg⟩ := zh_bd hf
    replace hf := hg
    refine ze_aftI0 (ze_runV (As := [.int x4, .int x7, zrf B o11]) (rest := []) X 7 165 (c_X7_child l D B n hK0 h13) vX7_child kml_X7_165 hW hK0 rfl rfl ⟨by decide, by decide⟩ rfl hl.1 rfl (Nat.le_of_ble_eq_true rfl) ⟨Nat.le_refl _, Nat.le_refl _⟩ dX7_matchesArguments_150) hW (fun H locs hV => ?_)
    replace hW := hV
    refine lv_istore (lv' := [(9, .int v12), (0, .ref (B + a0)), (2, .int x2), (4, .int x4), (5, .int x5), (6, .int x6), (7, .int x7), (8, .int x8)]) X.1 X.2.1 dX7_matchesArguments_153 hl (by decide) rfl (fun ls hk => ?_)
    replace hl := hk
    refine lv_aload_n X.1 X.2.1 dX7_matchesArguments_155 rfl (lv_at hl 1 rfl) ?_
    refine lv_iconst (v := 1) X.1 X.2.1 dX7_matchesArguments_156 (by decide) ?_
    refine lv_aload_n X.1 X.2.1 dX7_matchesArguments_157 rfl (lv_at hl 1 rfl) ?_
    refine lv_iload_n X.1 X.2.1 dX7_matchesArguments_158 rfl (lv_at hl 2 rfl) ?_
    refine lv_iload X.1 X.2.1 dX7_matchesArguments_159 (lv_at hl 6 rfl) ?_
    refine lv_aload_n X.1 X.2.1 dX7_matchesArguments_161 rfl (lv_at hl 1 rfl) ?_
    refine ze_gtR X 7 5 20 (RX7, TX7, 39) rfl hf hW hK0 rfl (by decide) kfl_X7_20 dX7_matchesArguments_162 (fun o14 hg => ?_)
    replace hf := hg
    obtain ⟨v15, h16, hg⟩ := zh_bd hf
    replace hf := hg
    refine ze_aftI0 (ze_runV (As := [.int x2, .int x7, zrf B o14]) (rest := [.int (1 : Int32), .ref (B + a0)]) X 7 165 (c_X7_child l D B n hK0 h16) vX7_child kml_X7_165 hW hK0 rfl rfl ⟨by decide, by decide⟩ rfl hl.1 rfl (Nat.le_of_ble_eq_true rfl) ⟨Nat.le_refl _, Nat.le_refl _⟩ dX7_matchesArguments_165) hW (fun H locs hV => ?_)
    replace hW := hV
    refine lv_iload X.1 X.2.1 dX7_matchesArguments_168 (lv_at hl 5 rfl) ?_
    refine lv_iload X.1 X.2.1 dX7_matchesArguments_170 (lv_at hl 4 rfl) ?_
    refine lv_isub X.1 X.2.1 dX7_matchesArguments_172 ?_
    refine lv_iconst (v := 1) X.1 X.2.1 dX7_matchesArguments_173 (by decide) ?_
    refine lv_iadd X.1 X.2.1 dX7_matchesArguments_174 ?_
    refine lv_iload X.1 X.2.1 dX7_matchesArguments_175 (lv_at hl 0 rfl) ?_
    refine lv_aload_n X.1 X.2.1 dX7_matchesArguments_177 rfl (lv_at hl 1 rfl) ?_
    refine lv_iload X.1 X.2.1 dX7_matchesArguments_178 (lv_at hl 3 rfl) ?_
    refine lv_iload X.1 X.2.1 dX7_matchesArguments_180 (lv_at hl 5 rfl) ?_
    refine lv_iload X.1 X.2.1 dX7_matchesArguments_182 (lv_at hl 7 rfl) ?_
    refine lv_isub X.1 X.2.1 dX7_matchesArguments_184 ?_
    refine lv_aload_n X.1 X.2.1 dX7_matchesArguments_185 rfl (lv_at hl 1 rfl) ?_
    refine ze_gtR X 7 6 23 (RX7, TX7, 39) rfl hf hW hK0 rfl (by decide) kfl_X7_23 dX7_matchesArguments_186 (fun o17 hg => ?_)
    replace hf := hg
    obtain ⟨v18, h19, hg⟩ := zh_bd hf
    replace hf := hg
    refine ze_aftI0 (ze_runV (As := [.int x4, .int (x6 - x8), zrf B o17]) (rest := [.int v12, .int ((x6 - x5) + (1 : Int32)), .int v15, .int (1 : Int32), .ref (B + a0)]) X 7 165 (c_X7_child l D B n hK0 h19) vX7_child kml_X7_165 hW hK0 rfl rfl ⟨by decide, by decide⟩ rfl hl.1 rfl (Nat.le_of_ble_eq_true rfl) ⟨Nat.le_refl _, Nat.le_refl _⟩ dX7_matchesArguments_189) hW (fun H locs hV => ?_)
    replace hW := hV
    refine lv_iload X.1 X.2.1 dX7_matchesArguments_192 (lv_at hl 0 rfl) ?_
    refine lv_isub X.1 X.2.1 dX7_matchesArguments_194 ?_
    obtain ⟨I20, h21, hg⟩ := zh_bd hf
    replace hf := hg
    refine ze_aftV0 (ze_runV (As := [.int (1 : Int32), .int v15, .int ((x6 - x5) + (1 : Int32)), .int v12, .int (v18 - v12)]) (rest := []) X 7 231 (c_X7_pushes l D B n hK0 h21) vX7_pushes kml_X7_231 hW hK0 rfl rfl ⟨by decide, by decide⟩ rfl hl.1 rfl (Nat.le_of_ble_eq_true rfl) ⟨Nat.le_refl _, Nat.le_refl _⟩ dX7_matchesArguments_195) hW (fun H locs hV => ?_)
    replace hW := hV
    refine lv_iload X.1 X.2.1 dX7_matchesArguments_198 (lv_at hl 6 rfl) ?_
    refine lv_iconst (v := 1) X.1 X.2.1 dX7_matchesArguments_200 (by decide) ?_
    refine lv_isub X.1 X.2.1 dX7_matchesArguments_201 ?_
    refine ze_nm hf (fun v22 hg => ?_)
    replace hf := hg
    refine lv_istore (lv' := [(10, .int v22), (9, .int v12), (0, .ref (B + a0)), (2, .int x2), (4, .int x4), (5, .int x5), (6, .int x6), (7, .int x7), (8, .int x8)]) X.1 X.2.1 dX7_matchesArguments_202 hl (by decide) rfl (fun ls hk => ?_)
    replace hl := hk
    exact w_X7_matchesArguments_204 X hr hlk hK0 hf hW (lv_sub hl [2, 3, 4, 0] rfl)
  · replace hf := zif_neg c10 hf
    refine lv_aload_n X.1 X.2.1 dX7_matchesArguments_95 rfl (lv_at hl 0 rfl) ?_
    refine lv_iconst (v := 0) X.1 X.2.1 dX7_matchesArguments_96 (by decide) ?_
    refine lv_aload_n X.1 X.2.1 dX7_matchesArguments_97 rfl (lv_at hl 0 rfl) ?_
    refine lv_iload_n X.1 X.2.1 dX7_matchesArguments_98 rfl (lv_at hl 1 rfl) ?_
    refine lv_iload X.1 X.2.1 dX7_matchesArguments_99 (lv_at hl 3 rfl) ?_
    refine lv_iconst (v := 1) X.1 X.2.1 dX7_matchesArguments_101 (by decide) ?_
    refine lv_isub X.1 X.2.1 dX7_matchesArguments_102 ?_
    refine lv_iload X.1 X.2.1 dX7_matchesArguments_103 (lv_at hl 7 rfl) ?_
    refine lv_isub X.1 X.2.1 dX7_matchesArguments_105 ?_
    refine lv_aload_n X.1 X.2.1 dX7_matchesArguments_106 rfl (lv_at hl 0 rfl) ?_
    refine ze_gtR X 7 5 20 (RX7, TX7, 39) rfl hf hW hK0 rfl (by decide) kfl_X7_20 dX7_matchesArguments_107 (fun o23 hg => ?_)
    replace hf := hg
    obtain ⟨v24, h25, hg⟩ := zh_bd hf
    replace hf := hg
    refine ze_aftI0 (ze_runV (As := [.int x2, .int ((x5 - (1 : Int32)) - x9), zrf B o23]) (rest := [.int (0 : Int32), .ref (B + a0)]) X 7 165 (c_X7_child l D B n hK0 h25) vX7_child kml_X7_165 hW hK0 rfl rfl ⟨by decide, by decide⟩ rfl hl.1 rfl (Nat.le_of_ble_eq_true rfl) ⟨Nat.le_refl _, Nat.le_refl _⟩ dX7_matchesArguments_110) hW (fun H locs hV => ?_)
    replace hW := hV
    refine lv_iconst (v := 0) X.1 X.2.1 dX7_matchesArguments_113 (by decide) ?_
    refine lv_aload_n X.1 X.2.1 dX7_matchesArguments_114 rfl (lv_at hl 0 rfl) ?_
    refine lv_iload X.1 X.2.1 dX7_matchesArguments_115 (lv_at hl 2 rfl) ?_
    refine lv_iload X.1 X.2.1 dX7_matchesArguments_117 (lv_at hl 4 rfl) ?_
    refine lv_iconst (v := 1) X.1 X.2.1 dX7_matchesArguments_119 (by decide) ?_
    refine lv_isub X.1 X.2.1 dX7_matchesArguments_120 ?_
    refine lv_iload X.1 X.2.1 dX7_matchesArguments_121 (lv_at hl 7 rfl) ?_
    refine lv_isub X.1 X.2.1 dX7_matchesArguments_123 ?_
    refine lv_aload_n X.1 X.2.1 dX7_matchesArguments_124 rfl (lv_at hl 0 rfl) ?_
    refine ze_gtR X 7 6 23 (RX7, TX7, 39) rfl hf hW hK0 rfl (by decide) kfl_X7_23 dX7_matchesArguments_125 (fun o26 hg => ?_)
    replace hf := hg
    obtain ⟨v27, h28, hg⟩ := zh_bd hf
    replace hf := hg
    refine ze_aftI0 (ze_runV (As := [.int x4, .int ((x6 - (1 : Int32)) - x9), zrf B o26]) (rest := [.int (0 : Int32), .int v24, .int (0 : Int32), .ref (B + a0)]) X 7 165 (c_X7_child l D B n hK0 h28) vX7_child kml_X7_165 hW hK0 rfl rfl ⟨by decide, by decide⟩ rfl hl.1 rfl (Nat.le_of_ble_eq_true rfl) ⟨Nat.le_refl _, Nat.le_refl _⟩ dX7_matchesArguments_128) hW (fun H locs hV => ?_)
    replace hW := hV
    refine lv_iconst (v := 0) X.1 X.2.1 dX7_matchesArguments_131 (by decide) ?_
    obtain ⟨I29, h30, hg⟩ := zh_bd hf
    replace hf := hg
    refine ze_aftV0 (ze_runV (As := [.int (0 : Int32), .int v24, .int (0 : Int32), .int v27, .int (0 : Int32)]) (rest := []) X 7 231 (c_X7_pushes l D B n hK0 h30) vX7_pushes kml_X7_231 hW hK0 rfl rfl ⟨by decide, by decide⟩ rfl hl.1 rfl (Nat.le_of_ble_eq_true rfl) ⟨Nat.le_refl _, Nat.le_refl _⟩ dX7_matchesArguments_132) hW (fun H locs hV => ?_)
    replace hW := hV
    refine ze_iinc (lv' := [(9, .int (x9 + (1 : Int32))), (0, .ref (B + a0)), (2, .int x2), (4, .int x4), (5, .int x5), (6, .int x6), (7, .int x7), (8, .int x8)]) (d := 1) X.1 X.2.1 dX7_matchesArguments_135 hl (k := 7) rfl (by decide) (by decide) rfl (fun ls hk => ?_)
    replace hl := hk
    refine lv_goto (tgt := 88) X.1 X.2.1 dX7_matchesArguments_138 (by decide) ?_
    exact hkself _ _ _ _ _ _ _ _ _ _ _ hf hW (lv_sub hl [1, 2, 3, 4, 5, 6, 7, 0] rfl)
set_option maxRecDepth 100000 in
set_option maxHeartbeats 4000000 in
theorem w_X7_matchesArguments_88 {F : Nat} {a0 : Nat}  (X : zX p s m c cX7_matchesArguments 11 RX7 D) (hr : meth.sig.returnType = some .boolean) (hlk : meth.locks = false) (hK0 : (K a0).1 = 17)  {t : Nat} {x2 : Int32} {x4 : Int32} {x5 : Int32} {x6 : Int32} {x7 : Int32} {x8 : Int32} {x9 : Int32} (hf : f_X7_matchesArguments_88 F K R a0  t I x2 x4 x5 x6 x7 x8 x9 = some (r, I')) (hW : zS (zOwn B K (B + n)) D B n K I R s.heap H locs) (hl : lv_has ls 11 [(0, .ref (B + a0)), (2, .int x2), (4, .int x4), (5, .int x5), (6, .int x6), (7, .int x7), (8, .int x8), (9, .int x9)]) : W p l e ({ frames := 3, cells := 0, slots := 0, locals := 89 } : Room) s m args below meth c H locs 0 0 (MQ below (zQi D (zOwn B K (B + n)) r B n K I' R) args s 0 0 (zOwn B K (B + n))) (F0 m 88 ls []) := by
  have key : ∀ t : Nat, ∀ (I : zI) (x2 : Int32) (x4 : Int32) (x5 : Int32) (x6 : Int32) (x7 : Int32) (x8 : Int32) (x9 : Int32) (H : Heap) (locs : List Loc) (ls : Array Slot), f_X7_matchesArguments_88 F K R a0  t I x2 x4 x5 x6 x7 x8 x9 = some (r, I') → zS (zOwn B K (B + n)) D B n K I R s.heap H locs → lv_has ls 11 [(0, .ref (B + a0)), (2, .int x2), (4, .int x4), (5, .int x5), (6, .int x6), (7, .int x7), (8, .int x8), (9, .int x9)] → W p l e ({ frames := 3, cells := 0, slots := 0, locals := 89 } : Room) s m args below meth c H locs 0 0 (MQ below (zQi D (zOwn B K (B + n)) r B n K I' R) args s 0 0 (zOwn B K (B + n))) (F0 m 88 ls []) := by
    intro t
    induction t with
    | zero =>
      intro I x2 x4 x5 x6 x7 x8 x9 H locs ls hf hW hl
      cases hf
    | succ t ih =>
      intro I x2 x4 x5 x6 x7 x8 x9 H locs ls hf hW hl
      exact wg_X7_matchesArguments_88 X hr hlk hK0  ih hf hW hl
  exact key t _ _ _ _ _ _ _ _ _ _ _ hf hW hl
set_option maxRecDepth 100000 in
set_option maxHeartbeats 4000000 in
theorem w_X7_matchesArguments_52 {F : Nat} {a0 : Nat}  (X : zX p s m c cX7_matchesArguments 11 RX7 D) (hr : meth.sig.returnType = some .boolean) (hlk : meth.locks = false) (hK0 : (K a0).1 = 17)  {x5 : Int32} {x6 : Int32} (hf : f_X7_matchesArguments_52 F K R a0  I x5 x6 = some (r, I')) (hW : zS (zOwn B K (B + n)) D B n K I R s.heap H locs) (hl : lv_has ls 11 [(0, .ref (B + a0)), (5, .int x5), (6, .int x6)]) : W p l e ({ frames := 3, cells := 0, slots := 0, locals := 89 } : Room) s m args below meth c H locs 0 0 (MQ below (zQi D (zOwn B K (B + n)) r B n K I' R) args s 0 0 (zOwn B K (B + n))) (F0 m 52 ls []) := by
  unfold f_X7_matchesArguments_52 at hf
  refine lv_iload X.1 X.2.1 dX7_matchesArguments_52 (lv_at hl 1 rfl) ?_
  refine lv_iload X.1 X.2.1 dX7_matchesArguments_54 (lv_at hl 2 rfl) ?_
  refine lv_icmp_ne (tgt := 63) X.1 X.2.1 dX7_matchesArguments_56 (by decide) (fun c31 => ?_) (fun c31 => ?_)
  · replace hf := zif_neg c31 hf
    refine lv_iconst (v := 0) X.1 X.2.1 dX7_matchesArguments_63 (by decide) ?_
    obtain ⟨rfl, rfl⟩ := zi2 hf
    exact ze_retZ X hr hlk (by decide) hW (Nat.le_refl _) (Nat.le_refl _) dX7_matchesArguments_64
  · replace hf := zif_pos c31 hf
    refine lv_iconst (v := 1) X.1 X.2.1 dX7_matchesArguments_59 (by decide) ?_
    refine lv_goto (tgt := 64) X.1 X.2.1 dX7_matchesArguments_60 (by decide) ?_
    obtain ⟨rfl, rfl⟩ := zi2 hf
    exact ze_retZ X hr hlk (by decide) hW (Nat.le_refl _) (Nat.le_refl _) dX7_matchesArguments_64
set_option maxRecDepth 100000 in
set_option maxHeartbeats 4000000 in
theorem c_X7_matchesArguments (l : Launch) (D : zD) (B n : Nat) {F : Nat} {K : zK} {I : zI} {R : zR} {a0 : Nat} {x1 : Int32} {x2 : Int32} {x3 : Int32} {x4 : Int32} {r : Int32} {I' : zI} (hK0 : (K a0).1 = 17) (hf : f_X7_matchesArguments F K I R a0 x1 x2 x3 x4 = some (r, I')) : zM l yX7_matchesArguments cX7_matchesArguments 11 (some .boolean) ({ frames := 3, cells := 0, slots := 0, locals := 89 } : Room) D B n K I R [.ref (B + a0), .int x1, .int x2, .int x3, .int x4] (zQi D (zOwn B K (B + n)) r B n K I' R) := by
  refine ze_entry (lv0 := [(0, .ref (B + a0)), (1, .int x1), (2, .int x2), (3, .int x3), (4, .int x4)]) (by decide) (by simp [lg_sl, zcat, zcat_i, zcat_r, zcat_l]) (by simp [lv_args, zcat, zcat_i, zcat_r, zcat_l]) (fun p e s m below meth c X hr hlk hin hW ls hl => ?_)
  unfold f_X7_matchesArguments at hf
  refine lv_aload_n X.1 X.2.1 dX7_matchesArguments_0 rfl (lv_at hl 0 rfl) ?_
  refine lv_iload_n X.1 X.2.1 dX7_matchesArguments_1 rfl (lv_at hl 1 rfl) ?_
  refine lv_iload_n X.1 X.2.1 dX7_matchesArguments_2 rfl (lv_at hl 2 rfl) ?_
  obtain ⟨v32, h33, hg⟩ := zh_bd hf
  replace hf := hg
  refine ze_aftI0 (ze_runV (As := [.int x1, .int x2]) (rest := []) X 7 111 (c_X7_arguments l D B n hK0 h33) vX7_arguments kml_X7_111 hW hK0 rfl rfl ⟨by decide, by decide⟩ rfl hl.1 rfl (Nat.le_of_ble_eq_true rfl) ⟨Nat.le_refl _, Nat.le_refl _⟩ dX7_matchesArguments_3) hW (fun H locs hV => ?_)
  replace hW := hV
  refine lv_istore (lv' := [(5, .int v32), (0, .ref (B + a0)), (1, .int x1), (2, .int x2), (3, .int x3), (4, .int x4)]) X.1 X.2.1 dX7_matchesArguments_6 hl (by decide) rfl (fun ls hk => ?_)
  replace hl := hk
  refine lv_aload_n X.1 X.2.1 dX7_matchesArguments_8 rfl (lv_at hl 1 rfl) ?_
  refine lv_iload_n X.1 X.2.1 dX7_matchesArguments_9 rfl (lv_at hl 4 rfl) ?_
  refine lv_iload X.1 X.2.1 dX7_matchesArguments_10 (lv_at hl 5 rfl) ?_
  obtain ⟨v34, h35, hg⟩ := zh_bd hf
  replace hf := hg
  refine ze_aftI0 (ze_runV (As := [.int x3, .int x4]) (rest := []) X 7 111 (c_X7_arguments l D B n hK0 h35) vX7_arguments kml_X7_111 hW hK0 rfl rfl ⟨by decide, by decide⟩ rfl hl.1 rfl (Nat.le_of_ble_eq_true rfl) ⟨Nat.le_refl _, Nat.le_refl _⟩ dX7_matchesArguments_12) hW (fun H locs hV => ?_)
  replace hW := hV
  refine lv_istore (lv' := [(6, .int v34), (5, .int v32), (0, .ref (B + a0)), (1, .int x1), (2, .int x2), (3, .int x3), (4, .int x4)]) X.1 X.2.1 dX7_matchesArguments_15 hl (by decide) rfl (fun ls hk => ?_)
  replace hl := hk
  refine lv_aload_n X.1 X.2.1 dX7_matchesArguments_17 rfl (lv_at hl 2 rfl) ?_
  refine lv_iload_n X.1 X.2.1 dX7_matchesArguments_18 rfl (lv_at hl 3 rfl) ?_
  refine lv_iload_n X.1 X.2.1 dX7_matchesArguments_19 rfl (lv_at hl 4 rfl) ?_
  refine lv_aload_n X.1 X.2.1 dX7_matchesArguments_20 rfl (lv_at hl 2 rfl) ?_
  refine ze_gtR X 7 5 20 (RX7, TX7, 39) rfl hf hW hK0 rfl (by decide) kfl_X7_20 dX7_matchesArguments_21 (fun o36 hg => ?_)
  replace hf := hg
  obtain ⟨v37, h38, hg⟩ := zh_bd hf
  replace hf := hg
  refine ze_aftI0 (ze_runV (As := [.int x1, .int x2, zrf B o36]) (rest := []) X 7 172 (c_X7_sequenceOf l D B n hK0 h38) vX7_sequenceOf kml_X7_172 hW hK0 rfl rfl ⟨by decide, by decide⟩ rfl hl.1 rfl (Nat.le_of_ble_eq_true rfl) ⟨Nat.le_refl _, Nat.le_refl _⟩ dX7_matchesArguments_24) hW (fun H locs hV => ?_)
  replace hW := hV
  refine lv_istore (lv' := [(7, .int v37), (6, .int v34), (5, .int v32), (0, .ref (B + a0)), (1, .int x1), (2, .int x2), (3, .int x3), (4, .int x4)]) X.1 X.2.1 dX7_matchesArguments_27 hl (by decide) rfl (fun ls hk => ?_)
  replace hl := hk
  refine lv_iload X.1 X.2.1 dX7_matchesArguments_29 (lv_at hl 0 rfl) ?_
  refine lv_bipush (v := -9) X.1 X.2.1 dX7_matchesArguments_31 (by decide) ?_
  refine lv_icmp_ne (tgt := 65) X.1 X.2.1 dX7_matchesArguments_33 (by decide) (fun c39 => ?_) (fun c39 => ?_)
  · replace hf := zif_neg c39 hf
    refine lv_iload X.1 X.2.1 dX7_matchesArguments_65 (lv_at hl 2 rfl) ?_
    refine lv_iconst (v := 1) X.1 X.2.1 dX7_matchesArguments_67 (by decide) ?_
    refine lv_isub X.1 X.2.1 dX7_matchesArguments_68 ?_
    refine lv_iload X.1 X.2.1 dX7_matchesArguments_69 (lv_at hl 0 rfl) ?_
    refine lv_isub X.1 X.2.1 dX7_matchesArguments_71 ?_
    refine ze_nm hf (fun v40 hg => ?_)
    replace hf := hg
    refine lv_istore (lv' := [(8, .int v40), (7, .int v37), (6, .int v34), (5, .int v32), (0, .ref (B + a0)), (1, .int x1), (2, .int x2), (3, .int x3), (4, .int x4)]) X.1 X.2.1 dX7_matchesArguments_72 hl (by decide) rfl (fun ls hk => ?_)
    replace hl := hk
    refine lv_iload X.1 X.2.1 dX7_matchesArguments_74 (lv_at hl 2 rfl) ?_
    refine lv_iload X.1 X.2.1 dX7_matchesArguments_76 (lv_at hl 3 rfl) ?_
    refine lv_iconst (v := 1) X.1 X.2.1 dX7_matchesArguments_78 (by decide) ?_
    refine lv_isub X.1 X.2.1 dX7_matchesArguments_79 ?_
    refine lv_icmp_ge (tgt := 85) X.1 X.2.1 dX7_matchesArguments_80 (by decide) (fun c41 => ?_) (fun c41 => ?_)
    · replace hf := zif_pos c41 hf
      refine lv_iconst (v := 0) X.1 X.2.1 dX7_matchesArguments_85 (by decide) ?_
      refine lv_istore (lv' := [(9, .int (0 : Int32)), (8, .int v40), (7, .int v37), (6, .int v34), (5, .int v32), (0, .ref (B + a0)), (1, .int x1), (2, .int x2), (3, .int x3), (4, .int x4)]) X.1 X.2.1 dX7_matchesArguments_86 hl (by decide) rfl (fun ls hk => ?_)
      replace hl := hk
      exact w_X7_matchesArguments_88 X hr hlk hK0 hf hW (lv_sub hl [5, 7, 9, 4, 3, 2, 1, 0] rfl)
    · replace hf := zif_neg c41 hf
      refine lv_iconst (v := 0) X.1 X.2.1 dX7_matchesArguments_83 (by decide) ?_
      obtain ⟨rfl, rfl⟩ := zi2 hf
      exact ze_retZ X hr hlk (by decide) hW (Nat.le_refl _) (Nat.le_refl _) dX7_matchesArguments_84
  · replace hf := zif_pos c39 hf
    refine lv_iload X.1 X.2.1 dX7_matchesArguments_36 (lv_at hl 2 rfl) ?_
    refine lv_iload X.1 X.2.1 dX7_matchesArguments_38 (lv_at hl 1 rfl) ?_
    refine lv_icmp_ne (tgt := 52) X.1 X.2.1 dX7_matchesArguments_40 (by decide) (fun c42 => ?_) (fun c42 => ?_)
    · replace hf := zif_neg c42 hf
      exact w_X7_matchesArguments_52 X hr hlk hK0 hf hW (lv_sub hl [3, 2, 1] rfl)
    · replace hf := zif_pos c42 hf
      refine lv_aload_n X.1 X.2.1 dX7_matchesArguments_43 rfl (lv_at hl 3 rfl) ?_
      refine lv_iload_n X.1 X.2.1 dX7_matchesArguments_44 rfl (lv_at hl 5 rfl) ?_
      refine lv_iload X.1 X.2.1 dX7_matchesArguments_45 (lv_at hl 7 rfl) ?_
      refine lv_iload X.1 X.2.1 dX7_matchesArguments_47 (lv_at hl 1 rfl) ?_
      obtain ⟨I43, h44, hg⟩ := zh_bd hf
      replace hf := hg
      refine ze_aftV0 (ze_runV (As := [.int x2, .int x4, .int v34]) (rest := []) X 7 246 (c_X7_pushesEven l D B n hK0 h44) vX7_pushesEven kml_X7_246 hW hK0 rfl rfl ⟨by decide, by decide⟩ rfl hl.1 rfl (Nat.le_of_ble_eq_true rfl) ⟨Nat.le_refl _, Nat.le_refl _⟩ dX7_matchesArguments_49) hW (fun H locs hV => ?_)
      replace hW := hV
      exact w_X7_matchesArguments_52 X hr hlk hK0 hf hW (lv_sub hl [3, 2, 1] rfl)
end

/-! LeastPatternsModel.matchesNext(II)Z -/
def f_X7_matchesNext_154 (F : Nat) (K : zK) (R : zR) (a0 : Nat)  (I : zI) (x1 : Int32) (x2 : Int32) (x3 : Int32) (x4 : Int32) (s0 : Int32) : Option (Int32 × zI) :=
  if s0 = (0 : Int32) then
    some ((0 : Int32), I)
  else
    zbd (f_X7_number F K I R a0 x1 x3) fun v2 =>
    zbd2 (f_X7_fills F K I R a0 x2 v2 (1 : Int32) x4 (1 : Int32) (1 : Int32)) fun v4 I5 =>
    if v4 = (0 : Int32) then
      some ((0 : Int32), I5)
    else
      zbd2 (f_X7_matchesArguments F K I5 R a0 x1 x3 x2 x4) fun v8 I9 =>
      if v8 = (0 : Int32) then
        some ((0 : Int32), I9)
      else
        some ((1 : Int32), I9)
def f_X7_matchesNext_149 (F : Nat) (K : zK) (R : zR) (a0 : Nat)  (I : zI) (x1 : Int32) (x2 : Int32) (x3 : Int32) (x4 : Int32) : Option (Int32 × zI) :=
  f_X7_matchesNext_154 F K R a0 I x1 x2 x3 x4 (1 : Int32)
def f_X7_matchesNext (F : Nat) (K : zK) (I : zI) (R : zR) (a0 : Nat) (x1 : Int32) (x2 : Int32) : Option (Int32 × zI) :=
  zbd (some (R a0 25)) fun o12 =>
  zbd (zdr K o12 1) fun a13 =>
  zbd (zrd K I a13 (I a0 29)) fun v16 =>
  zbd (some (R a0 26)) fun o17 =>
  zbd (zdr K o17 1) fun a18 =>
  zbd (zrd K I a18 (I a0 29)) fun v21 =>
  zbd (some (R a0 24)) fun o22 =>
  zbd (zdr K o22 2) fun a23 =>
  zbd (zrd K I a23 (I a0 29)) fun v26 =>
  if v26 = (0 : Int32) then
    zbd (f_X7_sort F K I R a0 x1 v16) fun v28 =>
    if v28 = (1 : Int32) then
      zbd (f_X7_sort F K I R a0 x2 v21) fun v47 =>
      if v47 = (3 : Int32) then
        some ((0 : Int32), I)
      else
        zbd (f_X7_number F K I R a0 x1 v16) fun v50 =>
        zbd (some (R a0 6)) fun o52 =>
        zbd (zdr K o52 1) fun a53 =>
        zbd (zrd K I a53 v21) fun v56 =>
        zbd2 (f_X7_fills F K I R a0 x2 v50 (0 : Int32) v21 v56 (1 : Int32)) fun v57 I58 =>
        if v57 = (0 : Int32) then
          some ((0 : Int32), I58)
        else
          some ((1 : Int32), I58)
    else
      zbd (f_X7_sort F K I R a0 x1 v16) fun v31 =>
      if v31 = (2 : Int32) then
        zbd (f_X7_sort F K I R a0 x2 v21) fun v41 =>
        if v41 = (0 : Int32) then
          f_X7_matchesNext_149 F K R a0 I x1 x2 v16 v21
        else
          zbd (f_X7_sort F K I R a0 x2 v21) fun v44 =>
          if v44 = (2 : Int32) then
            f_X7_matchesNext_149 F K R a0 I x1 x2 v16 v21
          else
            f_X7_matchesNext_154 F K R a0 I x1 x2 v16 v21 (0 : Int32)
      else
        zbd (f_X7_isAlike F K I R a0 x1 v16 x2 v21) fun v34 =>
        if v34 = (0 : Int32) then
          some ((0 : Int32), I)
        else
          zbd2 (f_X7_matchesArguments F K I R a0 x1 v16 x2 v21) fun v37 I38 =>
          if v37 = (0 : Int32) then
            some ((0 : Int32), I38)
          else
            some ((1 : Int32), I38)
  else
    zbd (f_X7_number F K I R a0 x1 v16) fun v61 =>
    zbd (some (R a0 28)) fun o63 =>
    zbd (zdr K o63 1) fun a64 =>
    zbd (zrd K I a64 (I a0 29)) fun v67 =>
    zbd (some (R a0 27)) fun o68 =>
    zbd (zdr K o68 1) fun a69 =>
    zbd (zrd K I a69 (I a0 29)) fun v72 =>
    zbd2 (f_X7_fills F K I R a0 x2 v61 (0 : Int32) v21 v67 v72) fun v73 I74 =>
    if v73 = 0 ∨ v73 = 1 then
    some (v73, I74)
    else
    none
section
variable {p : Program} {l : Launch} {e : Env} {s : State} {m : MethodId} {args : Array Value} {below : List Frame} {meth : Method} {c : Code} {D : zD} {B n n0 n' fd ld : Nat} {K K0 K' : zK} {I I' : zI} {R R' : zR} {H : Heap} {locs : List Loc} {ls : Array Slot} {r : Int32}
set_option maxRecDepth 100000 in
set_option maxHeartbeats 4000000 in
theorem w_X7_matchesNext_154 {F : Nat} {a0 : Nat}  (X : zX p s m c cX7_matchesNext 6 RX7 D) (hr : meth.sig.returnType = some .boolean) (hlk : meth.locks = false) (hK0 : (K a0).1 = 17)  {x1 : Int32} {x2 : Int32} {x3 : Int32} {x4 : Int32} {s0 : Int32} (hf : f_X7_matchesNext_154 F K R a0  I x1 x2 x3 x4 s0 = some (r, I')) (hW : zS (zOwn B K (B + n)) D B n K I R s.heap H locs) (hl : lv_has ls 6 [(0, .ref (B + a0)), (1, .int x1), (2, .int x2), (3, .int x3), (4, .int x4)]) : W p l e ({ frames := 4, cells := 0, slots := 0, locals := 119 } : Room) s m args below meth c H locs 0 0 (MQ below (zQi D (zOwn B K (B + n)) r B n K I' R) args s 0 0 (zOwn B K (B + n))) (F0 m 154 ls [.int s0]) := by
  unfold f_X7_matchesNext_154 at hf
  refine lv_istore (lv' := [(5, .int s0), (0, .ref (B + a0)), (1, .int x1), (2, .int x2), (3, .int x3), (4, .int x4)]) X.1 X.2.1 dX7_matchesNext_154 hl (by decide) rfl (fun ls hk => ?_)
  replace hl := hk
  refine lv_iload X.1 X.2.1 dX7_matchesNext_156 (lv_at hl 0 rfl) ?_
  refine lv_if_eq (tgt := 196) X.1 X.2.1 dX7_matchesNext_158 (by decide) (fun c1 => ?_) (fun c1 => ?_)
  · replace hf := zif_pos c1 hf
    refine lv_iconst (v := 0) X.1 X.2.1 dX7_matchesNext_196 (by decide) ?_
    obtain ⟨rfl, rfl⟩ := zi2 hf
    exact ze_retZ X hr hlk (by decide) hW (Nat.le_refl _) (Nat.le_refl _) dX7_matchesNext_197
  · replace hf := zif_neg c1 hf
    refine lv_aload_n X.1 X.2.1 dX7_matchesNext_161 rfl (lv_at hl 1 rfl) ?_
    refine lv_iload_n X.1 X.2.1 dX7_matchesNext_162 rfl (lv_at hl 3 rfl) ?_
    refine lv_aload_n X.1 X.2.1 dX7_matchesNext_163 rfl (lv_at hl 1 rfl) ?_
    refine lv_iload_n X.1 X.2.1 dX7_matchesNext_164 rfl (lv_at hl 2 rfl) ?_
    refine lv_iload_n X.1 X.2.1 dX7_matchesNext_165 rfl (lv_at hl 4 rfl) ?_
    obtain ⟨v2, h3, hg⟩ := zh_bd hf
    replace hf := hg
    refine ze_aftI0 (ze_runV (As := [.int x1, .int x3]) (rest := [.int x2, .ref (B + a0)]) X 7 159 (c_X7_number l D B n hK0 h3) vX7_number kml_X7_159 hW hK0 rfl rfl ⟨by decide, by decide⟩ rfl hl.1 rfl (Nat.le_of_ble_eq_true rfl) ⟨Nat.le_refl _, Nat.le_refl _⟩ dX7_matchesNext_166) hW (fun H locs hV => ?_)
    replace hW := hV
    refine lv_iconst (v := 1) X.1 X.2.1 dX7_matchesNext_169 (by decide) ?_
    refine lv_iload X.1 X.2.1 dX7_matchesNext_170 (lv_at hl 5 rfl) ?_
    refine lv_iconst (v := 1) X.1 X.2.1 dX7_matchesNext_172 (by decide) ?_
    refine lv_iconst (v := 1) X.1 X.2.1 dX7_matchesNext_173 (by decide) ?_
    obtain ⟨v4, I5, h6, hg⟩ := zh_bd2 hf
    replace hf := hg
    refine ze_aftI0 (ze_runV (As := [.int x2, .int v2, .int (1 : Int32), .int x4, .int (1 : Int32), .int (1 : Int32)]) (rest := []) X 7 264 (c_X7_fills l D B n hK0 h6) vX7_fills kml_X7_264 hW hK0 rfl rfl ⟨by decide, by decide⟩ rfl hl.1 rfl (Nat.le_of_ble_eq_true rfl) ⟨Nat.le_refl _, Nat.le_refl _⟩ dX7_matchesNext_174) hW (fun H locs hV => ?_)
    replace hW := hV
    refine lv_if_eq (tgt := 196) X.1 X.2.1 dX7_matchesNext_177 (by decide) (fun c7 => ?_) (fun c7 => ?_)
    · replace hf := zif_pos c7 hf
      refine lv_iconst (v := 0) X.1 X.2.1 dX7_matchesNext_196 (by decide) ?_
      obtain ⟨rfl, rfl⟩ := zi2 hf
      exact ze_retZ X hr hlk (by decide) hW (Nat.le_refl _) (Nat.le_refl _) dX7_matchesNext_197
    · replace hf := zif_neg c7 hf
      refine lv_aload_n X.1 X.2.1 dX7_matchesNext_180 rfl (lv_at hl 1 rfl) ?_
      refine lv_iload_n X.1 X.2.1 dX7_matchesNext_181 rfl (lv_at hl 2 rfl) ?_
      refine lv_iload_n X.1 X.2.1 dX7_matchesNext_182 rfl (lv_at hl 4 rfl) ?_
      refine lv_iload_n X.1 X.2.1 dX7_matchesNext_183 rfl (lv_at hl 3 rfl) ?_
      refine lv_iload X.1 X.2.1 dX7_matchesNext_184 (lv_at hl 5 rfl) ?_
      obtain ⟨v8, I9, h10, hg⟩ := zh_bd2 hf
      replace hf := hg
      refine ze_aftI0 (ze_runV (As := [.int x1, .int x3, .int x2, .int x4]) (rest := []) X 7 268 (c_X7_matchesArguments l D B n hK0 h10) vX7_matchesArguments kml_X7_268 hW hK0 rfl rfl ⟨by decide, by decide⟩ rfl hl.1 rfl (Nat.le_of_ble_eq_true rfl) ⟨Nat.le_refl _, Nat.le_refl _⟩ dX7_matchesNext_186) hW (fun H locs hV => ?_)
      replace hW := hV
      refine lv_if_eq (tgt := 196) X.1 X.2.1 dX7_matchesNext_189 (by decide) (fun c11 => ?_) (fun c11 => ?_)
      · replace hf := zif_pos c11 hf
        refine lv_iconst (v := 0) X.1 X.2.1 dX7_matchesNext_196 (by decide) ?_
        obtain ⟨rfl, rfl⟩ := zi2 hf
        exact ze_retZ X hr hlk (by decide) hW (Nat.le_refl _) (Nat.le_refl _) dX7_matchesNext_197
      · replace hf := zif_neg c11 hf
        refine lv_iconst (v := 1) X.1 X.2.1 dX7_matchesNext_192 (by decide) ?_
        refine lv_goto (tgt := 197) X.1 X.2.1 dX7_matchesNext_193 (by decide) ?_
        obtain ⟨rfl, rfl⟩ := zi2 hf
        exact ze_retZ X hr hlk (by decide) hW (Nat.le_refl _) (Nat.le_refl _) dX7_matchesNext_197
set_option maxRecDepth 100000 in
set_option maxHeartbeats 4000000 in
theorem w_X7_matchesNext_149 {F : Nat} {a0 : Nat}  (X : zX p s m c cX7_matchesNext 6 RX7 D) (hr : meth.sig.returnType = some .boolean) (hlk : meth.locks = false) (hK0 : (K a0).1 = 17)  {x1 : Int32} {x2 : Int32} {x3 : Int32} {x4 : Int32} (hf : f_X7_matchesNext_149 F K R a0  I x1 x2 x3 x4 = some (r, I')) (hW : zS (zOwn B K (B + n)) D B n K I R s.heap H locs) (hl : lv_has ls 6 [(0, .ref (B + a0)), (1, .int x1), (2, .int x2), (3, .int x3), (4, .int x4)]) : W p l e ({ frames := 4, cells := 0, slots := 0, locals := 119 } : Room) s m args below meth c H locs 0 0 (MQ below (zQi D (zOwn B K (B + n)) r B n K I' R) args s 0 0 (zOwn B K (B + n))) (F0 m 149 ls []) := by
  unfold f_X7_matchesNext_149 at hf
  refine lv_iconst (v := 1) X.1 X.2.1 dX7_matchesNext_149 (by decide) ?_
  refine lv_goto (tgt := 154) X.1 X.2.1 dX7_matchesNext_150 (by decide) ?_
  exact w_X7_matchesNext_154 X hr hlk hK0 hf hW hl
set_option maxRecDepth 100000 in
set_option maxHeartbeats 4000000 in
theorem c_X7_matchesNext (l : Launch) (D : zD) (B n : Nat) {F : Nat} {K : zK} {I : zI} {R : zR} {a0 : Nat} {x1 : Int32} {x2 : Int32} {r : Int32} {I' : zI} (hK0 : (K a0).1 = 17) (hf : f_X7_matchesNext F K I R a0 x1 x2 = some (r, I')) : zM l yX7_matchesNext cX7_matchesNext 6 (some .boolean) ({ frames := 4, cells := 0, slots := 0, locals := 119 } : Room) D B n K I R [.ref (B + a0), .int x1, .int x2] (zQi D (zOwn B K (B + n)) r B n K I' R) := by
  refine ze_entry (lv0 := [(0, .ref (B + a0)), (1, .int x1), (2, .int x2)]) (by decide) (by simp [lg_sl, zcat, zcat_i, zcat_r, zcat_l]) (by simp [lv_args, zcat, zcat_i, zcat_r, zcat_l]) (fun p e s m below meth c X hr hlk hin hW ls hl => ?_)
  unfold f_X7_matchesNext at hf
  refine lv_aload_n X.1 X.2.1 dX7_matchesNext_0 rfl (lv_at hl 0 rfl) ?_
  refine ze_gtR X 7 25 69 (RX7, TX7, 39) rfl hf hW hK0 rfl (by decide) kfl_X7_69 dX7_matchesNext_1 (fun o12 hg => ?_)
  replace hf := hg
  refine lv_aload_n X.1 X.2.1 dX7_matchesNext_4 rfl (lv_at hl 0 rfl) ?_
  refine ze_getI X 7 29 228 (RX7, TX7, 39) rfl hW hK0 rfl (by decide) kfl_X7_228 dX7_matchesNext_5 ?_
  obtain ⟨a13, rfl, k15, hg⟩ := zh_dr hf
  replace hf := hg
  refine ze_iald X hf hW k15 dX7_matchesNext_8 (fun v16 hg => ?_)
  replace hf := hg
  refine lv_istore_n (i := 3) (lv' := [(3, .int v16), (0, .ref (B + a0)), (1, .int x1), (2, .int x2)]) X.1 X.2.1 dX7_matchesNext_9 rfl hl (by decide) rfl (fun ls hk => ?_)
  replace hl := hk
  refine lv_aload_n X.1 X.2.1 dX7_matchesNext_10 rfl (lv_at hl 1 rfl) ?_
  refine ze_gtR X 7 26 72 (RX7, TX7, 39) rfl hf hW hK0 rfl (by decide) kfl_X7_72 dX7_matchesNext_11 (fun o17 hg => ?_)
  replace hf := hg
  refine lv_aload_n X.1 X.2.1 dX7_matchesNext_14 rfl (lv_at hl 1 rfl) ?_
  refine ze_getI X 7 29 228 (RX7, TX7, 39) rfl hW hK0 rfl (by decide) kfl_X7_228 dX7_matchesNext_15 ?_
  obtain ⟨a18, rfl, k20, hg⟩ := zh_dr hf
  replace hf := hg
  refine ze_iald X hf hW k20 dX7_matchesNext_18 (fun v21 hg => ?_)
  replace hf := hg
  refine lv_istore (lv' := [(4, .int v21), (3, .int v16), (0, .ref (B + a0)), (1, .int x1), (2, .int x2)]) X.1 X.2.1 dX7_matchesNext_19 hl (by decide) rfl (fun ls hk => ?_)
  replace hl := hk
  refine lv_aload_n X.1 X.2.1 dX7_matchesNext_21 rfl (lv_at hl 2 rfl) ?_
  refine ze_gtR X 7 24 66 (RX7, TX7, 39) rfl hf hW hK0 rfl (by decide) kfl_X7_66 dX7_matchesNext_22 (fun o22 hg => ?_)
  replace hf := hg
  refine lv_aload_n X.1 X.2.1 dX7_matchesNext_25 rfl (lv_at hl 2 rfl) ?_
  refine ze_getI X 7 29 228 (RX7, TX7, 39) rfl hW hK0 rfl (by decide) kfl_X7_228 dX7_matchesNext_26 ?_
  obtain ⟨a23, rfl, k25, hg⟩ := zh_dr hf
  replace hf := hg
  refine ze_zald X hf hW k25 dX7_matchesNext_29 (fun v26 hg => ?_)
  replace hf := hg
  refine lv_if_eq (tgt := 66) X.1 X.2.1 dX7_matchesNext_30 (by decide) (fun c27 => ?_) (fun c27 => ?_)
  · replace hf := zif_pos c27 hf
    refine lv_aload_n X.1 X.2.1 dX7_matchesNext_66 rfl (lv_at hl 2 rfl) ?_
    refine lv_iload_n X.1 X.2.1 dX7_matchesNext_67 rfl (lv_at hl 3 rfl) ?_
    refine lv_iload_n X.1 X.2.1 dX7_matchesNext_68 rfl (lv_at hl 1 rfl) ?_
    obtain ⟨v28, h29, hg⟩ := zh_bd hf
    replace hf := hg
    refine ze_aftI0 (ze_runV (As := [.int x1, .int v16]) (rest := []) X 7 119 (c_X7_sort l D B n hK0 h29) vX7_sort kml_X7_119 hW hK0 rfl rfl ⟨by decide, by decide⟩ rfl hl.1 rfl (Nat.le_of_ble_eq_true rfl) ⟨Nat.le_refl _, Nat.le_refl _⟩ dX7_matchesNext_69) hW (fun H locs hV => ?_)
    replace hW := hV
    refine lv_iconst (v := 1) X.1 X.2.1 dX7_matchesNext_72 (by decide) ?_
    refine lv_icmp_ne (tgt := 118) X.1 X.2.1 dX7_matchesNext_73 (by decide) (fun c30 => ?_) (fun c30 => ?_)
    · replace hf := zif_neg c30 hf
      refine lv_aload_n X.1 X.2.1 dX7_matchesNext_118 rfl (lv_at hl 2 rfl) ?_
      refine lv_iload_n X.1 X.2.1 dX7_matchesNext_119 rfl (lv_at hl 3 rfl) ?_
      refine lv_iload_n X.1 X.2.1 dX7_matchesNext_120 rfl (lv_at hl 1 rfl) ?_
      obtain ⟨v31, h32, hg⟩ := zh_bd hf
      replace hf := hg
      refine ze_aftI0 (ze_runV (As := [.int x1, .int v16]) (rest := []) X 7 119 (c_X7_sort l D B n hK0 h32) vX7_sort kml_X7_119 hW hK0 rfl rfl ⟨by decide, by decide⟩ rfl hl.1 rfl (Nat.le_of_ble_eq_true rfl) ⟨Nat.le_refl _, Nat.le_refl _⟩ dX7_matchesNext_121) hW (fun H locs hV => ?_)
      replace hW := hV
      refine lv_iconst (v := 2) X.1 X.2.1 dX7_matchesNext_124 (by decide) ?_
      refine lv_icmp_ne (tgt := 198) X.1 X.2.1 dX7_matchesNext_125 (by decide) (fun c33 => ?_) (fun c33 => ?_)
      · replace hf := zif_neg c33 hf
        refine lv_aload_n X.1 X.2.1 dX7_matchesNext_198 rfl (lv_at hl 2 rfl) ?_
        refine lv_iload_n X.1 X.2.1 dX7_matchesNext_199 rfl (lv_at hl 3 rfl) ?_
        refine lv_iload_n X.1 X.2.1 dX7_matchesNext_200 rfl (lv_at hl 1 rfl) ?_
        refine lv_iload_n X.1 X.2.1 dX7_matchesNext_201 rfl (lv_at hl 4 rfl) ?_
        refine lv_iload X.1 X.2.1 dX7_matchesNext_202 (lv_at hl 0 rfl) ?_
        obtain ⟨v34, h35, hg⟩ := zh_bd hf
        replace hf := hg
        refine ze_aftI0 (ze_runV (As := [.int x1, .int v16, .int x2, .int v21]) (rest := []) X 7 235 (c_X7_isAlike l D B n hK0 h35) vX7_isAlike kml_X7_235 hW hK0 rfl rfl ⟨by decide, by decide⟩ rfl hl.1 rfl (Nat.le_of_ble_eq_true rfl) ⟨Nat.le_refl _, Nat.le_refl _⟩ dX7_matchesNext_204) hW (fun H locs hV => ?_)
        replace hW := hV
        refine lv_if_eq (tgt := 226) X.1 X.2.1 dX7_matchesNext_207 (by decide) (fun c36 => ?_) (fun c36 => ?_)
        · replace hf := zif_pos c36 hf
          refine lv_iconst (v := 0) X.1 X.2.1 dX7_matchesNext_226 (by decide) ?_
          obtain ⟨rfl, rfl⟩ := zi2 hf
          exact ze_retZ X hr hlk (by decide) hW (Nat.le_refl _) (Nat.le_refl _) dX7_matchesNext_227
        · replace hf := zif_neg c36 hf
          refine lv_aload_n X.1 X.2.1 dX7_matchesNext_210 rfl (lv_at hl 2 rfl) ?_
          refine lv_iload_n X.1 X.2.1 dX7_matchesNext_211 rfl (lv_at hl 3 rfl) ?_
          refine lv_iload_n X.1 X.2.1 dX7_matchesNext_212 rfl (lv_at hl 1 rfl) ?_
          refine lv_iload_n X.1 X.2.1 dX7_matchesNext_213 rfl (lv_at hl 4 rfl) ?_
          refine lv_iload X.1 X.2.1 dX7_matchesNext_214 (lv_at hl 0 rfl) ?_
          obtain ⟨v37, I38, h39, hg⟩ := zh_bd2 hf
          replace hf := hg
          refine ze_aftI0 (ze_runV (As := [.int x1, .int v16, .int x2, .int v21]) (rest := []) X 7 268 (c_X7_matchesArguments l D B n hK0 h39) vX7_matchesArguments kml_X7_268 hW hK0 rfl rfl ⟨by decide, by decide⟩ rfl hl.1 rfl (Nat.le_of_ble_eq_true rfl) ⟨Nat.le_refl _, Nat.le_refl _⟩ dX7_matchesNext_216) hW (fun H locs hV => ?_)
          replace hW := hV
          refine lv_if_eq (tgt := 226) X.1 X.2.1 dX7_matchesNext_219 (by decide) (fun c40 => ?_) (fun c40 => ?_)
          · replace hf := zif_pos c40 hf
            refine lv_iconst (v := 0) X.1 X.2.1 dX7_matchesNext_226 (by decide) ?_
            obtain ⟨rfl, rfl⟩ := zi2 hf
            exact ze_retZ X hr hlk (by decide) hW (Nat.le_refl _) (Nat.le_refl _) dX7_matchesNext_227
          · replace hf := zif_neg c40 hf
            refine lv_iconst (v := 1) X.1 X.2.1 dX7_matchesNext_222 (by decide) ?_
            refine lv_goto (tgt := 227) X.1 X.2.1 dX7_matchesNext_223 (by decide) ?_
            obtain ⟨rfl, rfl⟩ := zi2 hf
            exact ze_retZ X hr hlk (by decide) hW (Nat.le_refl _) (Nat.le_refl _) dX7_matchesNext_227
      · replace hf := zif_pos c33 hf
        refine lv_aload_n X.1 X.2.1 dX7_matchesNext_128 rfl (lv_at hl 2 rfl) ?_
        refine lv_iload_n X.1 X.2.1 dX7_matchesNext_129 rfl (lv_at hl 4 rfl) ?_
        refine lv_iload X.1 X.2.1 dX7_matchesNext_130 (lv_at hl 0 rfl) ?_
        obtain ⟨v41, h42, hg⟩ := zh_bd hf
        replace hf := hg
        refine ze_aftI0 (ze_runV (As := [.int x2, .int v21]) (rest := []) X 7 119 (c_X7_sort l D B n hK0 h42) vX7_sort kml_X7_119 hW hK0 rfl rfl ⟨by decide, by decide⟩ rfl hl.1 rfl (Nat.le_of_ble_eq_true rfl) ⟨Nat.le_refl _, Nat.le_refl _⟩ dX7_matchesNext_132) hW (fun H locs hV => ?_)
        replace hW := hV
        refine lv_if_eq (tgt := 149) X.1 X.2.1 dX7_matchesNext_135 (by decide) (fun c43 => ?_) (fun c43 => ?_)
        · replace hf := zif_pos c43 hf
          exact w_X7_matchesNext_149 X hr hlk hK0 hf hW (lv_sub hl [2, 3, 4, 1, 0] rfl)
        · replace hf := zif_neg c43 hf
          refine lv_aload_n X.1 X.2.1 dX7_matchesNext_138 rfl (lv_at hl 2 rfl) ?_
          refine lv_iload_n X.1 X.2.1 dX7_matchesNext_139 rfl (lv_at hl 4 rfl) ?_
          refine lv_iload X.1 X.2.1 dX7_matchesNext_140 (lv_at hl 0 rfl) ?_
          obtain ⟨v44, h45, hg⟩ := zh_bd hf
          replace hf := hg
          refine ze_aftI0 (ze_runV (As := [.int x2, .int v21]) (rest := []) X 7 119 (c_X7_sort l D B n hK0 h45) vX7_sort kml_X7_119 hW hK0 rfl rfl ⟨by decide, by decide⟩ rfl hl.1 rfl (Nat.le_of_ble_eq_true rfl) ⟨Nat.le_refl _, Nat.le_refl _⟩ dX7_matchesNext_142) hW (fun H locs hV => ?_)
          replace hW := hV
          refine lv_iconst (v := 2) X.1 X.2.1 dX7_matchesNext_145 (by decide) ?_
          refine lv_icmp_ne (tgt := 153) X.1 X.2.1 dX7_matchesNext_146 (by decide) (fun c46 => ?_) (fun c46 => ?_)
          · replace hf := zif_neg c46 hf
            refine lv_iconst (v := 0) X.1 X.2.1 dX7_matchesNext_153 (by decide) ?_
            exact w_X7_matchesNext_154 X hr hlk hK0 hf hW (lv_sub hl [2, 3, 4, 1, 0] rfl)
          · replace hf := zif_pos c46 hf
            exact w_X7_matchesNext_149 X hr hlk hK0 hf hW (lv_sub hl [2, 3, 4, 1, 0] rfl)
    · replace hf := zif_pos c30 hf
      refine lv_aload_n X.1 X.2.1 dX7_matchesNext_76 rfl (lv_at hl 2 rfl) ?_
      refine lv_iload_n X.1 X.2.1 dX7_matchesNext_77 rfl (lv_at hl 4 rfl) ?_
      refine lv_iload X.1 X.2.1 dX7_matchesNext_78 (lv_at hl 0 rfl) ?_
      obtain ⟨v47, h48, hg⟩ := zh_bd hf
      replace hf := hg
      refine ze_aftI0 (ze_runV (As := [.int x2, .int v21]) (rest := []) X 7 119 (c_X7_sort l D B n hK0 h48) vX7_sort kml_X7_119 hW hK0 rfl rfl ⟨by decide, by decide⟩ rfl hl.1 rfl (Nat.le_of_ble_eq_true rfl) ⟨Nat.le_refl _, Nat.le_refl _⟩ dX7_matchesNext_80) hW (fun H locs hV => ?_)
      replace hW := hV
      refine lv_iconst (v := 3) X.1 X.2.1 dX7_matchesNext_83 (by decide) ?_
      refine lv_icmp_eq (tgt := 116) X.1 X.2.1 dX7_matchesNext_84 (by decide) (fun c49 => ?_) (fun c49 => ?_)
      · replace hf := zif_pos c49 hf
        refine lv_iconst (v := 0) X.1 X.2.1 dX7_matchesNext_116 (by decide) ?_
        obtain ⟨rfl, rfl⟩ := zi2 hf
        exact ze_retZ X hr hlk (by decide) hW (Nat.le_refl _) (Nat.le_refl _) dX7_matchesNext_117
      · replace hf := zif_neg c49 hf
        refine lv_aload_n X.1 X.2.1 dX7_matchesNext_87 rfl (lv_at hl 2 rfl) ?_
        refine lv_iload_n X.1 X.2.1 dX7_matchesNext_88 rfl (lv_at hl 4 rfl) ?_
        refine lv_aload_n X.1 X.2.1 dX7_matchesNext_89 rfl (lv_at hl 2 rfl) ?_
        refine lv_iload_n X.1 X.2.1 dX7_matchesNext_90 rfl (lv_at hl 3 rfl) ?_
        refine lv_iload_n X.1 X.2.1 dX7_matchesNext_91 rfl (lv_at hl 1 rfl) ?_
        obtain ⟨v50, h51, hg⟩ := zh_bd hf
        replace hf := hg
        refine ze_aftI0 (ze_runV (As := [.int x1, .int v16]) (rest := [.int x2, .ref (B + a0)]) X 7 159 (c_X7_number l D B n hK0 h51) vX7_number kml_X7_159 hW hK0 rfl rfl ⟨by decide, by decide⟩ rfl hl.1 rfl (Nat.le_of_ble_eq_true rfl) ⟨Nat.le_refl _, Nat.le_refl _⟩ dX7_matchesNext_92) hW (fun H locs hV => ?_)
        replace hW := hV
        refine lv_iconst (v := 0) X.1 X.2.1 dX7_matchesNext_95 (by decide) ?_
        refine lv_iload X.1 X.2.1 dX7_matchesNext_96 (lv_at hl 0 rfl) ?_
        refine lv_aload_n X.1 X.2.1 dX7_matchesNext_98 rfl (lv_at hl 2 rfl) ?_
        refine ze_gtR X 7 6 23 (RX7, TX7, 39) rfl hf hW hK0 rfl (by decide) kfl_X7_23 dX7_matchesNext_99 (fun o52 hg => ?_)
        replace hf := hg
        refine lv_iload X.1 X.2.1 dX7_matchesNext_102 (lv_at hl 0 rfl) ?_
        obtain ⟨a53, rfl, k55, hg⟩ := zh_dr hf
        replace hf := hg
        refine ze_iald X hf hW k55 dX7_matchesNext_104 (fun v56 hg => ?_)
        replace hf := hg
        refine lv_iconst (v := 1) X.1 X.2.1 dX7_matchesNext_105 (by decide) ?_
        obtain ⟨v57, I58, h59, hg⟩ := zh_bd2 hf
        replace hf := hg
        refine ze_aftI0 (ze_runV (As := [.int x2, .int v50, .int (0 : Int32), .int v21, .int v56, .int (1 : Int32)]) (rest := []) X 7 264 (c_X7_fills l D B n hK0 h59) vX7_fills kml_X7_264 hW hK0 rfl rfl ⟨by decide, by decide⟩ rfl hl.1 rfl (Nat.le_of_ble_eq_true rfl) ⟨Nat.le_refl _, Nat.le_refl _⟩ dX7_matchesNext_106) hW (fun H locs hV => ?_)
        replace hW := hV
        refine lv_if_eq (tgt := 116) X.1 X.2.1 dX7_matchesNext_109 (by decide) (fun c60 => ?_) (fun c60 => ?_)
        · replace hf := zif_pos c60 hf
          refine lv_iconst (v := 0) X.1 X.2.1 dX7_matchesNext_116 (by decide) ?_
          obtain ⟨rfl, rfl⟩ := zi2 hf
          exact ze_retZ X hr hlk (by decide) hW (Nat.le_refl _) (Nat.le_refl _) dX7_matchesNext_117
        · replace hf := zif_neg c60 hf
          refine lv_iconst (v := 1) X.1 X.2.1 dX7_matchesNext_112 (by decide) ?_
          refine lv_goto (tgt := 117) X.1 X.2.1 dX7_matchesNext_113 (by decide) ?_
          obtain ⟨rfl, rfl⟩ := zi2 hf
          exact ze_retZ X hr hlk (by decide) hW (Nat.le_refl _) (Nat.le_refl _) dX7_matchesNext_117
  · replace hf := zif_neg c27 hf
    refine lv_aload_n X.1 X.2.1 dX7_matchesNext_33 rfl (lv_at hl 2 rfl) ?_
    refine lv_iload_n X.1 X.2.1 dX7_matchesNext_34 rfl (lv_at hl 4 rfl) ?_
    refine lv_aload_n X.1 X.2.1 dX7_matchesNext_35 rfl (lv_at hl 2 rfl) ?_
    refine lv_iload_n X.1 X.2.1 dX7_matchesNext_36 rfl (lv_at hl 3 rfl) ?_
    refine lv_iload_n X.1 X.2.1 dX7_matchesNext_37 rfl (lv_at hl 1 rfl) ?_
    obtain ⟨v61, h62, hg⟩ := zh_bd hf
    replace hf := hg
    refine ze_aftI0 (ze_runV (As := [.int x1, .int v16]) (rest := [.int x2, .ref (B + a0)]) X 7 159 (c_X7_number l D B n hK0 h62) vX7_number kml_X7_159 hW hK0 rfl rfl ⟨by decide, by decide⟩ rfl hl.1 rfl (Nat.le_of_ble_eq_true rfl) ⟨Nat.le_refl _, Nat.le_refl _⟩ dX7_matchesNext_38) hW (fun H locs hV => ?_)
    replace hW := hV
    refine lv_iconst (v := 0) X.1 X.2.1 dX7_matchesNext_41 (by decide) ?_
    refine lv_iload X.1 X.2.1 dX7_matchesNext_42 (lv_at hl 0 rfl) ?_
    refine lv_aload_n X.1 X.2.1 dX7_matchesNext_44 rfl (lv_at hl 2 rfl) ?_
    refine ze_gtR X 7 28 78 (RX7, TX7, 39) rfl hf hW hK0 rfl (by decide) kfl_X7_78 dX7_matchesNext_45 (fun o63 hg => ?_)
    replace hf := hg
    refine lv_aload_n X.1 X.2.1 dX7_matchesNext_48 rfl (lv_at hl 2 rfl) ?_
    refine ze_getI X 7 29 228 (RX7, TX7, 39) rfl hW hK0 rfl (by decide) kfl_X7_228 dX7_matchesNext_49 ?_
    obtain ⟨a64, rfl, k66, hg⟩ := zh_dr hf
    replace hf := hg
    refine ze_iald X hf hW k66 dX7_matchesNext_52 (fun v67 hg => ?_)
    replace hf := hg
    refine lv_aload_n X.1 X.2.1 dX7_matchesNext_53 rfl (lv_at hl 2 rfl) ?_
    refine ze_gtR X 7 27 75 (RX7, TX7, 39) rfl hf hW hK0 rfl (by decide) kfl_X7_75 dX7_matchesNext_54 (fun o68 hg => ?_)
    replace hf := hg
    refine lv_aload_n X.1 X.2.1 dX7_matchesNext_57 rfl (lv_at hl 2 rfl) ?_
    refine ze_getI X 7 29 228 (RX7, TX7, 39) rfl hW hK0 rfl (by decide) kfl_X7_228 dX7_matchesNext_58 ?_
    obtain ⟨a69, rfl, k71, hg⟩ := zh_dr hf
    replace hf := hg
    refine ze_iald X hf hW k71 dX7_matchesNext_61 (fun v72 hg => ?_)
    replace hf := hg
    obtain ⟨v73, I74, h75, hg⟩ := zh_bd2 hf
    replace hf := hg
    refine ze_aftI0 (ze_runV (As := [.int x2, .int v61, .int (0 : Int32), .int v21, .int v67, .int v72]) (rest := []) X 7 264 (c_X7_fills l D B n hK0 h75) vX7_fills kml_X7_264 hW hK0 rfl rfl ⟨by decide, by decide⟩ rfl hl.1 rfl (Nat.le_of_ble_eq_true rfl) ⟨Nat.le_refl _, Nat.le_refl _⟩ dX7_matchesNext_62) hW (fun H locs hV => ?_)
    replace hW := hV
    obtain ⟨hv76, hg⟩ := zh_if hf
    replace hf := hg
    obtain ⟨rfl, rfl⟩ := zi2 hf
    exact ze_retZ X hr hlk hv76 hW (Nat.le_refl _) (Nat.le_refl _) dX7_matchesNext_65
end

/-! LeastPatternsModel.matches(II)Z -/
def g_X7_matches_55 (F : Nat) (K : zK) (R : zR) (a0 : Nat)  (kself : zI → Int32 → Int32 → Int32 → Option (Int32 × zI)) (I : zI) (x1 : Int32) (x2 : Int32) (x3 : Int32) : Option (Int32 × zI) :=
  if x3 = (0 : Int32) then
    if x3 = 0 ∨ x3 = 1 then
    some (x3, I)
    else
    none
  else
    if (I a0 29) ≤ (0 : Int32) then
      if x3 = 0 ∨ x3 = 1 then
      some (x3, I)
      else
      none
    else
      zbd (some (zup I a0 29 ((I a0 29) - (1 : Int32)))) fun I5 =>
      zbd2 (f_X7_matchesNext F K I5 R a0 x1 x2) fun v6 I7 =>
      kself I7 x1 x2 v6
def f_X7_matches_55 (F : Nat) (K : zK) (R : zR) (a0 : Nat)  : Nat → zI → Int32 → Int32 → Int32 → Option (Int32 × zI)
  | 0, _, _, _, _ => none
  | t + 1, I, x1, x2, x3 => g_X7_matches_55 F K R a0  (f_X7_matches_55 F K R a0  t) I x1 x2 x3
def g_X7_matches_20 (F : Nat) (K : zK) (R : zR) (a0 : Nat)  (kself : zI → Int32 → Int32 → Int32 → Option (Int32 × zI)) (I : zI) (x1 : Int32) (x2 : Int32) (x3 : Int32) : Option (Int32 × zI) :=
  if (10 : Int32) ≤ x3 then
    zbd (some (zup I a0 29 (0 : Int32))) fun I10 =>
    zbd (f_X7_pushes F K I10 R a0 (0 : Int32) (0 : Int32) (0 : Int32) (0 : Int32) (0 : Int32)) fun I11 =>
    f_X7_matches_55 F K R a0 F I11 x1 x2 (1 : Int32)
  else
    zbd (some (R a0 31)) fun o13 =>
    zbd (zdr K o13 1) fun a14 =>
    zbd (zwr K I a14 x3 (-1 : Int32)) fun I17 =>
    kself I17 x1 x2 (x3 + (1 : Int32))
def f_X7_matches_20 (F : Nat) (K : zK) (R : zR) (a0 : Nat)  : Nat → zI → Int32 → Int32 → Int32 → Option (Int32 × zI)
  | 0, _, _, _, _ => none
  | t + 1, I, x1, x2, x3 => g_X7_matches_20 F K R a0  (f_X7_matches_20 F K R a0  t) I x1 x2 x3
def f_X7_matches (F : Nat) (K : zK) (I : zI) (R : zR) (a0 : Nat) (x1 : Int32) (x2 : Int32) : Option (Int32 × zI) :=
  zbd (some (R a0 5)) fun o18 =>
  zbd (f_X7_counts F K I R a0 x1 o18) fun I19 =>
  zbd (some (R a0 6)) fun o21 =>
  zbd (f_X7_counts F K I19 R a0 x2 o21) fun I22 =>
  f_X7_matches_20 F K R a0 F I22 x1 x2 (0 : Int32)
section
variable {p : Program} {l : Launch} {e : Env} {s : State} {m : MethodId} {args : Array Value} {below : List Frame} {meth : Method} {c : Code} {D : zD} {B n n0 n' fd ld : Nat} {K K0 K' : zK} {I I' : zI} {R R' : zR} {H : Heap} {locs : List Loc} {ls : Array Slot} {r : Int32}
set_option maxRecDepth 100000 in
set_option maxHeartbeats 4000000 in
theorem wg_X7_matches_55 {F : Nat} {a0 : Nat}  (X : zX p s m c cX7_matches 4 RX7 D) (hr : meth.sig.returnType = some .boolean) (hlk : meth.locks = false) (hK0 : (K a0).1 = 17)  {kself : zI → Int32 → Int32 → Int32 → Option (Int32 × zI)} (hkself : ∀ (I : zI) (x1 : Int32) (x2 : Int32) (x3 : Int32) (H : Heap) (locs : List Loc) (ls : Array Slot), kself I x1 x2 x3 = some (r, I') → zS (zOwn B K (B + n)) D B n K I R s.heap H locs → lv_has ls 4 [(0, .ref (B + a0)), (1, .int x1), (2, .int x2), (3, .int x3)] → W p l e ({ frames := 5, cells := 0, slots := 0, locals := 144 } : Room) s m args below meth c H locs 0 0 (MQ below (zQi D (zOwn B K (B + n)) r B n K I' R) args s 0 0 (zOwn B K (B + n))) (F0 m 55 ls [])) {x1 : Int32} {x2 : Int32} {x3 : Int32} (hf : g_X7_matches_55 F K R a0  kself I x1 x2 x3 = some (r, I')) (hW : zS (zOwn B K (B + n)) D B n K I R s.heap H locs) (hl : lv_has ls 4 [(0, .ref (B + a0)), (1, .int x1), (2, .int x2), (3, .int x3)]) : W p l e ({ frames := 5, cells := 0, slots := 0, locals := 144 } : Room) s m args below meth c H locs 0 0 (MQ below (zQi D (zOwn B K (B + n)) r B n K I' R) args s 0 0 (zOwn B K (B + n))) (F0 m 55 ls []) := by
  unfold g_X7_matches_55 at hf
  refine lv_iload_n X.1 X.2.1 dX7_matches_55 rfl (lv_at hl 3 rfl) ?_
  refine lv_if_eq (tgt := 86) X.1 X.2.1 dX7_matches_56 (by decide) (fun c1 => ?_) (fun c1 => ?_)
  · replace hf := zif_pos c1 hf
    refine lv_iload_n X.1 X.2.1 dX7_matches_86 rfl (lv_at hl 3 rfl) ?_
    obtain ⟨hv2, hg⟩ := zh_if hf
    replace hf := hg
    obtain ⟨rfl, rfl⟩ := zi2 hf
    exact ze_retZ X hr hlk hv2 hW (Nat.le_refl _) (Nat.le_refl _) dX7_matches_87
  · replace hf := zif_neg c1 hf
    refine lv_aload_n X.1 X.2.1 dX7_matches_59 rfl (lv_at hl 0 rfl) ?_
    refine ze_getI X 7 29 228 (RX7, TX7, 39) rfl hW hK0 rfl (by decide) kfl_X7_228 dX7_matches_60 ?_
    refine lv_if_le (tgt := 86) X.1 X.2.1 dX7_matches_63 (by decide) (fun c3 => ?_) (fun c3 => ?_)
    · replace hf := zif_pos c3 hf
      refine lv_iload_n X.1 X.2.1 dX7_matches_86 rfl (lv_at hl 3 rfl) ?_
      obtain ⟨hv4, hg⟩ := zh_if hf
      replace hf := hg
      obtain ⟨rfl, rfl⟩ := zi2 hf
      exact ze_retZ X hr hlk hv4 hW (Nat.le_refl _) (Nat.le_refl _) dX7_matches_87
    · replace hf := zif_neg c3 hf
      refine lv_aload_n X.1 X.2.1 dX7_matches_66 rfl (lv_at hl 0 rfl) ?_
      refine lv_dup X.1 X.2.1 dX7_matches_67 rfl ?_
      refine ze_getI X 7 29 228 (RX7, TX7, 39) rfl hW hK0 rfl (by decide) kfl_X7_228 dX7_matches_68 ?_
      refine lv_iconst (v := 1) X.1 X.2.1 dX7_matches_71 (by decide) ?_
      refine lv_isub X.1 X.2.1 dX7_matches_72 ?_
      refine ze_putI X 7 29 228 (RX7, TX7, 39) rfl hf hW hK0 rfl (by decide) kfl_X7_228 rfl (by decide +kernel) dX7_matches_73 (fun I5 H locs hg hV => ?_)
      replace hf := hg
      replace hW := hV
      refine lv_aload_n X.1 X.2.1 dX7_matches_76 rfl (lv_at hl 0 rfl) ?_
      refine lv_iload_n X.1 X.2.1 dX7_matches_77 rfl (lv_at hl 1 rfl) ?_
      refine lv_iload_n X.1 X.2.1 dX7_matches_78 rfl (lv_at hl 2 rfl) ?_
      obtain ⟨v6, I7, h8, hg⟩ := zh_bd2 hf
      replace hf := hg
      refine ze_aftI0 (ze_runV (As := [.int x1, .int x2]) (rest := []) X 7 271 (c_X7_matchesNext l D B n hK0 h8) vX7_matchesNext kml_X7_271 hW hK0 rfl rfl ⟨by decide, by decide⟩ rfl hl.1 rfl (Nat.le_of_ble_eq_true rfl) ⟨Nat.le_refl _, Nat.le_refl _⟩ dX7_matches_79) hW (fun H locs hV => ?_)
      replace hW := hV
      refine lv_istore_n (i := 3) (lv' := [(3, .int v6), (0, .ref (B + a0)), (1, .int x1), (2, .int x2)]) X.1 X.2.1 dX7_matches_82 rfl hl (by decide) rfl (fun ls hk => ?_)
      replace hl := hk
      refine lv_goto (tgt := 55) X.1 X.2.1 dX7_matches_83 (by decide) ?_
      exact hkself _ _ _ _ _ _ _ hf hW (lv_sub hl [1, 2, 3, 0] rfl)
set_option maxRecDepth 100000 in
set_option maxHeartbeats 4000000 in
theorem w_X7_matches_55 {F : Nat} {a0 : Nat}  (X : zX p s m c cX7_matches 4 RX7 D) (hr : meth.sig.returnType = some .boolean) (hlk : meth.locks = false) (hK0 : (K a0).1 = 17)  {t : Nat} {x1 : Int32} {x2 : Int32} {x3 : Int32} (hf : f_X7_matches_55 F K R a0  t I x1 x2 x3 = some (r, I')) (hW : zS (zOwn B K (B + n)) D B n K I R s.heap H locs) (hl : lv_has ls 4 [(0, .ref (B + a0)), (1, .int x1), (2, .int x2), (3, .int x3)]) : W p l e ({ frames := 5, cells := 0, slots := 0, locals := 144 } : Room) s m args below meth c H locs 0 0 (MQ below (zQi D (zOwn B K (B + n)) r B n K I' R) args s 0 0 (zOwn B K (B + n))) (F0 m 55 ls []) := by
  have key : ∀ t : Nat, ∀ (I : zI) (x1 : Int32) (x2 : Int32) (x3 : Int32) (H : Heap) (locs : List Loc) (ls : Array Slot), f_X7_matches_55 F K R a0  t I x1 x2 x3 = some (r, I') → zS (zOwn B K (B + n)) D B n K I R s.heap H locs → lv_has ls 4 [(0, .ref (B + a0)), (1, .int x1), (2, .int x2), (3, .int x3)] → W p l e ({ frames := 5, cells := 0, slots := 0, locals := 144 } : Room) s m args below meth c H locs 0 0 (MQ below (zQi D (zOwn B K (B + n)) r B n K I' R) args s 0 0 (zOwn B K (B + n))) (F0 m 55 ls []) := by
    intro t
    induction t with
    | zero =>
      intro I x1 x2 x3 H locs ls hf hW hl
      cases hf
    | succ t ih =>
      intro I x1 x2 x3 H locs ls hf hW hl
      exact wg_X7_matches_55 X hr hlk hK0  ih hf hW hl
  exact key t _ _ _ _ _ _ _ hf hW hl
set_option maxRecDepth 100000 in
set_option maxHeartbeats 4000000 in
theorem wg_X7_matches_20 {F : Nat} {a0 : Nat}  (X : zX p s m c cX7_matches 4 RX7 D) (hr : meth.sig.returnType = some .boolean) (hlk : meth.locks = false) (hK0 : (K a0).1 = 17)  {kself : zI → Int32 → Int32 → Int32 → Option (Int32 × zI)} (hkself : ∀ (I : zI) (x1 : Int32) (x2 : Int32) (x3 : Int32) (H : Heap) (locs : List Loc) (ls : Array Slot), kself I x1 x2 x3 = some (r, I') → zS (zOwn B K (B + n)) D B n K I R s.heap H locs → lv_has ls 4 [(0, .ref (B + a0)), (1, .int x1), (2, .int x2), (3, .int x3)] → W p l e ({ frames := 5, cells := 0, slots := 0, locals := 144 } : Room) s m args below meth c H locs 0 0 (MQ below (zQi D (zOwn B K (B + n)) r B n K I' R) args s 0 0 (zOwn B K (B + n))) (F0 m 20 ls [])) {x1 : Int32} {x2 : Int32} {x3 : Int32} (hf : g_X7_matches_20 F K R a0  kself I x1 x2 x3 = some (r, I')) (hW : zS (zOwn B K (B + n)) D B n K I R s.heap H locs) (hl : lv_has ls 4 [(0, .ref (B + a0)), (1, .int x1), (2, .int x2), (3, .int x3)]) : W p l e ({ frames := 5, cells := 0, slots := 0, locals := 144 } : Room) s m args below meth c H locs 0 0 (MQ below (zQi D (zOwn B K (B + n)) r B n K I' R) args s 0 0 (zOwn B K (B + n))) (F0 m 20 ls []) := by
  unfold g_X7_matches_20 at hf
  refine lv_iload_n X.1 X.2.1 dX7_matches_20 rfl (lv_at hl 3 rfl) ?_
  refine lv_bipush (v := 10) X.1 X.2.1 dX7_matches_21 (by decide) ?_
  refine lv_icmp_ge (tgt := 39) X.1 X.2.1 dX7_matches_23 (by decide) (fun c9 => ?_) (fun c9 => ?_)
  · replace hf := zif_pos c9 hf
    refine lv_aload_n X.1 X.2.1 dX7_matches_39 rfl (lv_at hl 0 rfl) ?_
    refine lv_iconst (v := 0) X.1 X.2.1 dX7_matches_40 (by decide) ?_
    refine ze_putI X 7 29 228 (RX7, TX7, 39) rfl hf hW hK0 rfl (by decide) kfl_X7_228 rfl (by decide +kernel) dX7_matches_41 (fun I10 H locs hg hV => ?_)
    replace hf := hg
    replace hW := hV
    refine lv_aload_n X.1 X.2.1 dX7_matches_44 rfl (lv_at hl 0 rfl) ?_
    refine lv_iconst (v := 0) X.1 X.2.1 dX7_matches_45 (by decide) ?_
    refine lv_iconst (v := 0) X.1 X.2.1 dX7_matches_46 (by decide) ?_
    refine lv_iconst (v := 0) X.1 X.2.1 dX7_matches_47 (by decide) ?_
    refine lv_iconst (v := 0) X.1 X.2.1 dX7_matches_48 (by decide) ?_
    refine lv_iconst (v := 0) X.1 X.2.1 dX7_matches_49 (by decide) ?_
    obtain ⟨I11, h12, hg⟩ := zh_bd hf
    replace hf := hg
    refine ze_aftV0 (ze_runV (As := [.int (0 : Int32), .int (0 : Int32), .int (0 : Int32), .int (0 : Int32), .int (0 : Int32)]) (rest := []) X 7 231 (c_X7_pushes l D B n hK0 h12) vX7_pushes kml_X7_231 hW hK0 rfl rfl ⟨by decide, by decide⟩ rfl hl.1 rfl (Nat.le_of_ble_eq_true rfl) ⟨Nat.le_refl _, Nat.le_refl _⟩ dX7_matches_50) hW (fun H locs hV => ?_)
    replace hW := hV
    refine lv_iconst (v := 1) X.1 X.2.1 dX7_matches_53 (by decide) ?_
    refine lv_istore_n (i := 3) (lv' := [(3, .int (1 : Int32)), (0, .ref (B + a0)), (1, .int x1), (2, .int x2)]) X.1 X.2.1 dX7_matches_54 rfl hl (by decide) rfl (fun ls hk => ?_)
    replace hl := hk
    exact w_X7_matches_55 X hr hlk hK0 hf hW (lv_sub hl [1, 2, 3, 0] rfl)
  · replace hf := zif_neg c9 hf
    refine lv_aload_n X.1 X.2.1 dX7_matches_26 rfl (lv_at hl 0 rfl) ?_
    refine ze_gtR X 7 31 84 (RX7, TX7, 39) rfl hf hW hK0 rfl (by decide) kfl_X7_84 dX7_matches_27 (fun o13 hg => ?_)
    replace hf := hg
    refine lv_iload_n X.1 X.2.1 dX7_matches_30 rfl (lv_at hl 3 rfl) ?_
    refine lv_iconst (v := -1) X.1 X.2.1 dX7_matches_31 (by decide) ?_
    obtain ⟨a14, rfl, k16, hg⟩ := zh_dr hf
    replace hf := hg
    refine ze_iast X hf hW k16 dX7_matches_32 (fun I17 H locs hg hV => ?_)
    replace hf := hg
    replace hW := hV
    refine ze_iinc (lv' := [(3, .int (x3 + (1 : Int32))), (0, .ref (B + a0)), (1, .int x1), (2, .int x2)]) (d := 1) X.1 X.2.1 dX7_matches_33 hl (k := 3) rfl (by decide) (by decide) rfl (fun ls hk => ?_)
    replace hl := hk
    refine lv_goto (tgt := 20) X.1 X.2.1 dX7_matches_36 (by decide) ?_
    exact hkself _ _ _ _ _ _ _ hf hW (lv_sub hl [1, 2, 3, 0] rfl)
set_option maxRecDepth 100000 in
set_option maxHeartbeats 4000000 in
theorem w_X7_matches_20 {F : Nat} {a0 : Nat}  (X : zX p s m c cX7_matches 4 RX7 D) (hr : meth.sig.returnType = some .boolean) (hlk : meth.locks = false) (hK0 : (K a0).1 = 17)  {t : Nat} {x1 : Int32} {x2 : Int32} {x3 : Int32} (hf : f_X7_matches_20 F K R a0  t I x1 x2 x3 = some (r, I')) (hW : zS (zOwn B K (B + n)) D B n K I R s.heap H locs) (hl : lv_has ls 4 [(0, .ref (B + a0)), (1, .int x1), (2, .int x2), (3, .int x3)]) : W p l e ({ frames := 5, cells := 0, slots := 0, locals := 144 } : Room) s m args below meth c H locs 0 0 (MQ below (zQi D (zOwn B K (B + n)) r B n K I' R) args s 0 0 (zOwn B K (B + n))) (F0 m 20 ls []) := by
  have key : ∀ t : Nat, ∀ (I : zI) (x1 : Int32) (x2 : Int32) (x3 : Int32) (H : Heap) (locs : List Loc) (ls : Array Slot), f_X7_matches_20 F K R a0  t I x1 x2 x3 = some (r, I') → zS (zOwn B K (B + n)) D B n K I R s.heap H locs → lv_has ls 4 [(0, .ref (B + a0)), (1, .int x1), (2, .int x2), (3, .int x3)] → W p l e ({ frames := 5, cells := 0, slots := 0, locals := 144 } : Room) s m args below meth c H locs 0 0 (MQ below (zQi D (zOwn B K (B + n)) r B n K I' R) args s 0 0 (zOwn B K (B + n))) (F0 m 20 ls []) := by
    intro t
    induction t with
    | zero =>
      intro I x1 x2 x3 H locs ls hf hW hl
      cases hf
    | succ t ih =>
      intro I x1 x2 x3 H locs ls hf hW hl
      exact wg_X7_matches_20 X hr hlk hK0  ih hf hW hl
  exact key t _ _ _ _ _ _ _ hf hW hl
set_option maxRecDepth 100000 in
set_option maxHeartbeats 4000000 in
theorem c_X7_matches (l : Launch) (D : zD) (B n : Nat) {F : Nat} {K : zK} {I : zI} {R : zR} {a0 : Nat} {x1 : Int32} {x2 : Int32} {r : Int32} {I' : zI} (hK0 : (K a0).1 = 17) (hf : f_X7_matches F K I R a0 x1 x2 = some (r, I')) : zM l yX7_matches cX7_matches 4 (some .boolean) ({ frames := 5, cells := 0, slots := 0, locals := 144 } : Room) D B n K I R [.ref (B + a0), .int x1, .int x2] (zQi D (zOwn B K (B + n)) r B n K I' R) := by
  refine ze_entry (lv0 := [(0, .ref (B + a0)), (1, .int x1), (2, .int x2)]) (by decide) (by simp [lg_sl, zcat, zcat_i, zcat_r, zcat_l]) (by simp [lv_args, zcat, zcat_i, zcat_r, zcat_l]) (fun p e s m below meth c X hr hlk hin hW ls hl => ?_)
  unfold f_X7_matches at hf
  refine lv_aload_n X.1 X.2.1 dX7_matches_0 rfl (lv_at hl 0 rfl) ?_
  refine lv_iload_n X.1 X.2.1 dX7_matches_1 rfl (lv_at hl 1 rfl) ?_
  refine lv_aload_n X.1 X.2.1 dX7_matches_2 rfl (lv_at hl 0 rfl) ?_
  refine ze_gtR X 7 5 20 (RX7, TX7, 39) rfl hf hW hK0 rfl (by decide) kfl_X7_20 dX7_matches_3 (fun o18 hg => ?_)
  replace hf := hg
  obtain ⟨I19, h20, hg⟩ := zh_bd hf
  replace hf := hg
  refine ze_aftV0 (ze_runV (As := [.int x1, zrf B o18]) (rest := []) X 7 115 (c_X7_counts l D B n hK0 h20) vX7_counts kml_X7_115 hW hK0 rfl rfl ⟨by decide, by decide⟩ rfl hl.1 rfl (Nat.le_of_ble_eq_true rfl) ⟨Nat.le_refl _, Nat.le_refl _⟩ dX7_matches_6) hW (fun H locs hV => ?_)
  replace hW := hV
  refine lv_aload_n X.1 X.2.1 dX7_matches_9 rfl (lv_at hl 0 rfl) ?_
  refine lv_iload_n X.1 X.2.1 dX7_matches_10 rfl (lv_at hl 2 rfl) ?_
  refine lv_aload_n X.1 X.2.1 dX7_matches_11 rfl (lv_at hl 0 rfl) ?_
  refine ze_gtR X 7 6 23 (RX7, TX7, 39) rfl hf hW hK0 rfl (by decide) kfl_X7_23 dX7_matches_12 (fun o21 hg => ?_)
  replace hf := hg
  obtain ⟨I22, h23, hg⟩ := zh_bd hf
  replace hf := hg
  refine ze_aftV0 (ze_runV (As := [.int x2, zrf B o21]) (rest := []) X 7 115 (c_X7_counts l D B n hK0 h23) vX7_counts kml_X7_115 hW hK0 rfl rfl ⟨by decide, by decide⟩ rfl hl.1 rfl (Nat.le_of_ble_eq_true rfl) ⟨Nat.le_refl _, Nat.le_refl _⟩ dX7_matches_15) hW (fun H locs hV => ?_)
  replace hW := hV
  refine lv_iconst (v := 0) X.1 X.2.1 dX7_matches_18 (by decide) ?_
  refine lv_istore_n (i := 3) (lv' := [(3, .int (0 : Int32)), (0, .ref (B + a0)), (1, .int x1), (2, .int x2)]) X.1 X.2.1 dX7_matches_19 rfl hl (by decide) rfl (fun ls hk => ?_)
  replace hl := hk
  exact w_X7_matches_20 X hr hlk hK0 hf hW (lv_sub hl [1, 2, 3, 0] rfl)
end

/-! LeastPatternsModel.covers(II)I -/
def f_X7_covers (F : Nat) (K : zK) (I : zI) (R : zR) (a0 : Nat) (x1 : Int32) (x2 : Int32) : Option (Int32 × zI) :=
  zbd (f_X7_wrong F K I R a0 x1 x2 (1 : Int32)) fun v1 =>
  if v1 = (0 : Int32) then
    zbd2 (f_X7_matches F K I R a0 ((97 : Int32) * x1) ((97 : Int32) * x2)) fun v4 I5 =>
    if v4 = (0 : Int32) then
      some ((0 : Int32), I5)
    else
      some ((1 : Int32), I5)
  else
    some (v1, I)
section
variable {p : Program} {l : Launch} {e : Env} {s : State} {m : MethodId} {args : Array Value} {below : List Frame} {meth : Method} {c : Code} {D : zD} {B n n0 n' fd ld : Nat} {K K0 K' : zK} {I I' : zI} {R R' : zR} {H : Heap} {locs : List Loc} {ls : Array Slot} {r : Int32}
set_option maxRecDepth 100000 in
set_option maxHeartbeats 4000000 in
theorem c_X7_covers (l : Launch) (D : zD) (B n : Nat) {F : Nat} {K : zK} {I : zI} {R : zR} {a0 : Nat} {x1 : Int32} {x2 : Int32} {r : Int32} {I' : zI} (hK0 : (K a0).1 = 17) (hf : f_X7_covers F K I R a0 x1 x2 = some (r, I')) : zM l yX7_covers cX7_covers 4 (some .int) ({ frames := 6, cells := 0, slots := 0, locals := 167 } : Room) D B n K I R [.ref (B + a0), .int x1, .int x2] (zQi D (zOwn B K (B + n)) r B n K I' R) := by
  refine ze_entry (lv0 := [(0, .ref (B + a0)), (1, .int x1), (2, .int x2)]) (by decide) (by simp [lg_sl, zcat, zcat_i, zcat_r, zcat_l]) (by simp [lv_args, zcat, zcat_i, zcat_r, zcat_l]) (fun p e s m below meth c X hr hlk hin hW ls hl => ?_)
  unfold f_X7_covers at hf
  refine lv_aload_n X.1 X.2.1 dX7_covers_0 rfl (lv_at hl 0 rfl) ?_
  refine lv_iload_n X.1 X.2.1 dX7_covers_1 rfl (lv_at hl 1 rfl) ?_
  refine lv_iload_n X.1 X.2.1 dX7_covers_2 rfl (lv_at hl 2 rfl) ?_
  refine lv_iconst (v := 1) X.1 X.2.1 dX7_covers_3 (by decide) ?_
  obtain ⟨v1, h2, hg⟩ := zh_bd hf
  replace hf := hg
  refine ze_aftI0 (ze_runV (As := [.int x1, .int x2, .int (1 : Int32)]) (rest := []) X 7 254 (c_X7_wrong l D B n hK0 h2) vX7_wrong kml_X7_254 hW hK0 rfl rfl ⟨by decide, by decide⟩ rfl hl.1 rfl (Nat.le_of_ble_eq_true rfl) ⟨Nat.le_refl _, Nat.le_refl _⟩ dX7_covers_4) hW (fun H locs hV => ?_)
  replace hW := hV
  refine lv_istore_n (i := 3) (lv' := [(3, .int v1), (0, .ref (B + a0)), (1, .int x1), (2, .int x2)]) X.1 X.2.1 dX7_covers_7 rfl hl (by decide) rfl (fun ls hk => ?_)
  replace hl := hk
  refine lv_iload_n X.1 X.2.1 dX7_covers_8 rfl (lv_at hl 0 rfl) ?_
  refine lv_if_eq (tgt := 16) X.1 X.2.1 dX7_covers_9 (by decide) (fun c3 => ?_) (fun c3 => ?_)
  · replace hf := zif_pos c3 hf
    refine lv_aload_n X.1 X.2.1 dX7_covers_16 rfl (lv_at hl 1 rfl) ?_
    refine lv_bipush (v := 97) X.1 X.2.1 dX7_covers_17 (by decide) ?_
    refine lv_iload_n X.1 X.2.1 dX7_covers_19 rfl (lv_at hl 2 rfl) ?_
    refine lv_imul X.1 X.2.1 dX7_covers_20 ?_
    refine lv_bipush (v := 97) X.1 X.2.1 dX7_covers_21 (by decide) ?_
    refine lv_iload_n X.1 X.2.1 dX7_covers_23 rfl (lv_at hl 3 rfl) ?_
    refine lv_imul X.1 X.2.1 dX7_covers_24 ?_
    obtain ⟨v4, I5, h6, hg⟩ := zh_bd2 hf
    replace hf := hg
    refine ze_aftI0 (ze_runV (As := [.int ((97 : Int32) * x1), .int ((97 : Int32) * x2)]) (rest := []) X 7 274 (c_X7_matches l D B n hK0 h6) vX7_matches kml_X7_274 hW hK0 rfl rfl ⟨by decide, by decide⟩ rfl hl.1 rfl (Nat.le_of_ble_eq_true rfl) ⟨Nat.le_refl _, Nat.le_refl _⟩ dX7_covers_25) hW (fun H locs hV => ?_)
    replace hW := hV
    refine lv_if_eq (tgt := 35) X.1 X.2.1 dX7_covers_28 (by decide) (fun c7 => ?_) (fun c7 => ?_)
    · replace hf := zif_pos c7 hf
      refine lv_iconst (v := 0) X.1 X.2.1 dX7_covers_35 (by decide) ?_
      obtain ⟨rfl, rfl⟩ := zi2 hf
      exact ze_retI X hr hlk hW (Nat.le_refl _) (Nat.le_refl _) dX7_covers_36
    · replace hf := zif_neg c7 hf
      refine lv_iconst (v := 1) X.1 X.2.1 dX7_covers_31 (by decide) ?_
      refine lv_goto (tgt := 36) X.1 X.2.1 dX7_covers_32 (by decide) ?_
      obtain ⟨rfl, rfl⟩ := zi2 hf
      exact ze_retI X hr hlk hW (Nat.le_refl _) (Nat.le_refl _) dX7_covers_36
  · replace hf := zif_neg c3 hf
    refine lv_iload_n X.1 X.2.1 dX7_covers_12 rfl (lv_at hl 0 rfl) ?_
    refine lv_goto (tgt := 36) X.1 X.2.1 dX7_covers_13 (by decide) ?_
    obtain ⟨rfl, rfl⟩ := zi2 hf
    exact ze_retI X hr hlk hW (Nat.le_refl _) (Nat.le_refl _) dX7_covers_36
end

/-! LeastPatternsModel.filled(IIII)I -/
def f_X7_filled_28 (F : Nat) (K : zK) (R : zR) (a0 : Nat)  (I : zI) (x1 : Int32) (x2 : Int32) (x3 : Int32) (x4 : Int32) (s0 : Option Nat) (s1 : Int32) (s2 : Int32) (s3 : Int32) : Option (Int32 × zI) :=
  zbd (zdr K s0 17) fun a1 =>
  zbd (f_X7_wrong F K I R a1 s1 s2 s3) fun v4 =>
  if v4 = (0 : Int32) then
    zbd2 (f_X7_matches F K I R a0 ((97 : Int32) * x1) ((97 : Int32) * x2)) fun v7 I8 =>
    if v7 = (0 : Int32) then
      some ((-9 : Int32), I8)
    else
      zbd (some (R a0 31)) fun o11 =>
      zbd (zdr K o11 1) fun a12 =>
      zbd (zrd K I8 a12 x3) fun v15 =>
      if (0 : Int32) ≤ v15 then
        if x4 = (1 : Int32) then
          zbd (some (R a0 31)) fun o35 =>
          zbd (zdr K o35 1) fun a36 =>
          zbd (zrd K I8 a36 x3) fun v39 =>
          some (v39, I8)
        else
          if x4 = (2 : Int32) then
            zbd (some (R a0 32)) fun o30 =>
            zbd (zdr K o30 1) fun a31 =>
            zbd (zrd K I8 a31 x3) fun v34 =>
            some (v34, I8)
          else
            zbd (some (R a0 31)) fun o19 =>
            zbd (zdr K o19 1) fun a20 =>
            zbd (zrd K I8 a20 x3) fun v23 =>
            if v23 = (0 : Int32) then
              some ((-9 : Int32), I8)
            else
              zbd (some (R a0 30)) fun o25 =>
              zbd (zdr K o25 1) fun a26 =>
              zbd (zrd K I8 a26 x3) fun v29 =>
              some (v29, I8)
      else
        some ((-9 : Int32), I8)
  else
    some (v4, I)
def f_X7_filled_27 (F : Nat) (K : zK) (R : zR) (a0 : Nat)  (I : zI) (x1 : Int32) (x2 : Int32) (x3 : Int32) (x4 : Int32) (s0 : Option Nat) (s1 : Int32) (s2 : Int32) : Option (Int32 × zI) :=
  f_X7_filled_28 F K R a0 I x1 x2 x3 x4 s0 s1 s2 (0 : Int32)
def f_X7_filled (F : Nat) (K : zK) (I : zI) (R : zR) (a0 : Nat) (x1 : Int32) (x2 : Int32) (x3 : Int32) (x4 : Int32) : Option (Int32 × zI) :=
  zbd (f_X7_in F K I R x3 (0 : Int32) (9 : Int32)) fun v40 =>
  if v40 = (0 : Int32) then
    f_X7_filled_27 F K R a0 I x1 x2 x3 x4 (some a0) x1 x2
  else
    zbd (f_X7_in F K I R x4 (0 : Int32) (2 : Int32)) fun v43 =>
    if v43 = (0 : Int32) then
      f_X7_filled_27 F K R a0 I x1 x2 x3 x4 (some a0) x1 x2
    else
      f_X7_filled_28 F K R a0 I x1 x2 x3 x4 (some a0) x1 x2 (1 : Int32)
section
variable {p : Program} {l : Launch} {e : Env} {s : State} {m : MethodId} {args : Array Value} {below : List Frame} {meth : Method} {c : Code} {D : zD} {B n n0 n' fd ld : Nat} {K K0 K' : zK} {I I' : zI} {R R' : zR} {H : Heap} {locs : List Loc} {ls : Array Slot} {r : Int32}
set_option maxRecDepth 100000 in
set_option maxHeartbeats 4000000 in
theorem w_X7_filled_28 {F : Nat} {a0 : Nat}  (X : zX p s m c cX7_filled 6 RX7 D) (hr : meth.sig.returnType = some .int) (hlk : meth.locks = false) (hK0 : (K a0).1 = 17)  {x1 : Int32} {x2 : Int32} {x3 : Int32} {x4 : Int32} {s0 : Option Nat} {s1 : Int32} {s2 : Int32} {s3 : Int32} (hf : f_X7_filled_28 F K R a0  I x1 x2 x3 x4 s0 s1 s2 s3 = some (r, I')) (hW : zS (zOwn B K (B + n)) D B n K I R s.heap H locs) (hl : lv_has ls 6 [(0, .ref (B + a0)), (1, .int x1), (2, .int x2), (3, .int x3), (4, .int x4)]) : W p l e ({ frames := 6, cells := 0, slots := 0, locals := 167 } : Room) s m args below meth c H locs 0 0 (MQ below (zQi D (zOwn B K (B + n)) r B n K I' R) args s 0 0 (zOwn B K (B + n))) (F0 m 28 ls [.int s3, .int s2, .int s1, zrf B s0]) := by
  unfold f_X7_filled_28 at hf
  obtain ⟨a1, rfl, k3, hg⟩ := zh_dr hf
  replace hf := hg
  obtain ⟨v4, h5, hg⟩ := zh_bd hf
  replace hf := hg
  refine ze_aftI0 (ze_runV (As := [.int s1, .int s2, .int s3]) (rest := []) X 7 254 (c_X7_wrong l D B n k3 h5) vX7_wrong kml_X7_254 hW k3 rfl rfl ⟨by decide, by decide⟩ rfl hl.1 rfl (Nat.le_of_ble_eq_true rfl) ⟨Nat.le_refl _, Nat.le_refl _⟩ dX7_filled_28) hW (fun H locs hV => ?_)
  replace hW := hV
  refine lv_istore (lv' := [(5, .int v4), (0, .ref (B + a0)), (1, .int x1), (2, .int x2), (3, .int x3), (4, .int x4)]) X.1 X.2.1 dX7_filled_31 hl (by decide) rfl (fun ls hk => ?_)
  replace hl := hk
  refine lv_iload X.1 X.2.1 dX7_filled_33 (lv_at hl 0 rfl) ?_
  refine lv_if_eq (tgt := 41) X.1 X.2.1 dX7_filled_35 (by decide) (fun c6 => ?_) (fun c6 => ?_)
  · replace hf := zif_pos c6 hf
    refine lv_aload_n X.1 X.2.1 dX7_filled_41 rfl (lv_at hl 1 rfl) ?_
    refine lv_bipush (v := 97) X.1 X.2.1 dX7_filled_42 (by decide) ?_
    refine lv_iload_n X.1 X.2.1 dX7_filled_44 rfl (lv_at hl 2 rfl) ?_
    refine lv_imul X.1 X.2.1 dX7_filled_45 ?_
    refine lv_bipush (v := 97) X.1 X.2.1 dX7_filled_46 (by decide) ?_
    refine lv_iload_n X.1 X.2.1 dX7_filled_48 rfl (lv_at hl 3 rfl) ?_
    refine lv_imul X.1 X.2.1 dX7_filled_49 ?_
    obtain ⟨v7, I8, h9, hg⟩ := zh_bd2 hf
    replace hf := hg
    refine ze_aftI0 (ze_runV (As := [.int ((97 : Int32) * x1), .int ((97 : Int32) * x2)]) (rest := []) X 7 274 (c_X7_matches l D B n hK0 h9) vX7_matches kml_X7_274 hW hK0 rfl rfl ⟨by decide, by decide⟩ rfl hl.1 rfl (Nat.le_of_ble_eq_true rfl) ⟨Nat.le_refl _, Nat.le_refl _⟩ dX7_filled_50) hW (fun H locs hV => ?_)
    replace hW := hV
    refine lv_if_eq (tgt := 65) X.1 X.2.1 dX7_filled_53 (by decide) (fun c10 => ?_) (fun c10 => ?_)
    · replace hf := zif_pos c10 hf
      refine lv_bipush (v := -9) X.1 X.2.1 dX7_filled_65 (by decide) ?_
      obtain ⟨rfl, rfl⟩ := zi2 hf
      exact ze_retI X hr hlk hW (Nat.le_refl _) (Nat.le_refl _) dX7_filled_67
    · replace hf := zif_neg c10 hf
      refine lv_aload_n X.1 X.2.1 dX7_filled_56 rfl (lv_at hl 1 rfl) ?_
      refine ze_gtR X 7 31 84 (RX7, TX7, 39) rfl hf hW hK0 rfl (by decide) kfl_X7_84 dX7_filled_57 (fun o11 hg => ?_)
      replace hf := hg
      refine lv_iload_n X.1 X.2.1 dX7_filled_60 rfl (lv_at hl 4 rfl) ?_
      obtain ⟨a12, rfl, k14, hg⟩ := zh_dr hf
      replace hf := hg
      refine ze_iald X hf hW k14 dX7_filled_61 (fun v15 hg => ?_)
      replace hf := hg
      refine lv_if_ge (tgt := 68) X.1 X.2.1 dX7_filled_62 (by decide) (fun c16 => ?_) (fun c16 => ?_)
      · replace hf := zif_pos c16 hf
        refine lv_iload X.1 X.2.1 dX7_filled_68 (lv_at hl 5 rfl) ?_
        refine lv_iconst (v := 1) X.1 X.2.1 dX7_filled_70 (by decide) ?_
        refine lv_icmp_ne (tgt := 83) X.1 X.2.1 dX7_filled_71 (by decide) (fun c17 => ?_) (fun c17 => ?_)
        · replace hf := zif_neg c17 hf
          refine lv_iload X.1 X.2.1 dX7_filled_83 (lv_at hl 5 rfl) ?_
          refine lv_iconst (v := 2) X.1 X.2.1 dX7_filled_85 (by decide) ?_
          refine lv_icmp_ne (tgt := 98) X.1 X.2.1 dX7_filled_86 (by decide) (fun c18 => ?_) (fun c18 => ?_)
          · replace hf := zif_neg c18 hf
            refine lv_aload_n X.1 X.2.1 dX7_filled_98 rfl (lv_at hl 1 rfl) ?_
            refine ze_gtR X 7 31 84 (RX7, TX7, 39) rfl hf hW hK0 rfl (by decide) kfl_X7_84 dX7_filled_99 (fun o19 hg => ?_)
            replace hf := hg
            refine lv_iload_n X.1 X.2.1 dX7_filled_102 rfl (lv_at hl 4 rfl) ?_
            obtain ⟨a20, rfl, k22, hg⟩ := zh_dr hf
            replace hf := hg
            refine ze_iald X hf hW k22 dX7_filled_103 (fun v23 hg => ?_)
            replace hf := hg
            refine lv_if_ne (tgt := 112) X.1 X.2.1 dX7_filled_104 (by decide) (fun c24 => ?_) (fun c24 => ?_)
            · replace hf := zif_neg c24 hf
              refine lv_aload_n X.1 X.2.1 dX7_filled_112 rfl (lv_at hl 1 rfl) ?_
              refine ze_gtR X 7 30 81 (RX7, TX7, 39) rfl hf hW hK0 rfl (by decide) kfl_X7_81 dX7_filled_113 (fun o25 hg => ?_)
              replace hf := hg
              refine lv_iload_n X.1 X.2.1 dX7_filled_116 rfl (lv_at hl 4 rfl) ?_
              obtain ⟨a26, rfl, k28, hg⟩ := zh_dr hf
              replace hf := hg
              refine ze_iald X hf hW k28 dX7_filled_117 (fun v29 hg => ?_)
              replace hf := hg
              obtain ⟨rfl, rfl⟩ := zi2 hf
              exact ze_retI X hr hlk hW (Nat.le_refl _) (Nat.le_refl _) dX7_filled_118
            · replace hf := zif_pos c24 hf
              refine lv_bipush (v := -9) X.1 X.2.1 dX7_filled_107 (by decide) ?_
              refine lv_goto (tgt := 118) X.1 X.2.1 dX7_filled_109 (by decide) ?_
              obtain ⟨rfl, rfl⟩ := zi2 hf
              exact ze_retI X hr hlk hW (Nat.le_refl _) (Nat.le_refl _) dX7_filled_118
          · replace hf := zif_pos c18 hf
            refine lv_aload_n X.1 X.2.1 dX7_filled_89 rfl (lv_at hl 1 rfl) ?_
            refine ze_gtR X 7 32 87 (RX7, TX7, 39) rfl hf hW hK0 rfl (by decide) kfl_X7_87 dX7_filled_90 (fun o30 hg => ?_)
            replace hf := hg
            refine lv_iload_n X.1 X.2.1 dX7_filled_93 rfl (lv_at hl 4 rfl) ?_
            obtain ⟨a31, rfl, k33, hg⟩ := zh_dr hf
            replace hf := hg
            refine ze_iald X hf hW k33 dX7_filled_94 (fun v34 hg => ?_)
            replace hf := hg
            refine lv_goto (tgt := 118) X.1 X.2.1 dX7_filled_95 (by decide) ?_
            obtain ⟨rfl, rfl⟩ := zi2 hf
            exact ze_retI X hr hlk hW (Nat.le_refl _) (Nat.le_refl _) dX7_filled_118
        · replace hf := zif_pos c17 hf
          refine lv_aload_n X.1 X.2.1 dX7_filled_74 rfl (lv_at hl 1 rfl) ?_
          refine ze_gtR X 7 31 84 (RX7, TX7, 39) rfl hf hW hK0 rfl (by decide) kfl_X7_84 dX7_filled_75 (fun o35 hg => ?_)
          replace hf := hg
          refine lv_iload_n X.1 X.2.1 dX7_filled_78 rfl (lv_at hl 4 rfl) ?_
          obtain ⟨a36, rfl, k38, hg⟩ := zh_dr hf
          replace hf := hg
          refine ze_iald X hf hW k38 dX7_filled_79 (fun v39 hg => ?_)
          replace hf := hg
          refine lv_goto (tgt := 118) X.1 X.2.1 dX7_filled_80 (by decide) ?_
          obtain ⟨rfl, rfl⟩ := zi2 hf
          exact ze_retI X hr hlk hW (Nat.le_refl _) (Nat.le_refl _) dX7_filled_118
      · replace hf := zif_neg c16 hf
        refine lv_bipush (v := -9) X.1 X.2.1 dX7_filled_65 (by decide) ?_
        obtain ⟨rfl, rfl⟩ := zi2 hf
        exact ze_retI X hr hlk hW (Nat.le_refl _) (Nat.le_refl _) dX7_filled_67
  · replace hf := zif_neg c6 hf
    refine lv_iload X.1 X.2.1 dX7_filled_38 (lv_at hl 0 rfl) ?_
    obtain ⟨rfl, rfl⟩ := zi2 hf
    exact ze_retI X hr hlk hW (Nat.le_refl _) (Nat.le_refl _) dX7_filled_40
set_option maxRecDepth 100000 in
set_option maxHeartbeats 4000000 in
theorem w_X7_filled_27 {F : Nat} {a0 : Nat}  (X : zX p s m c cX7_filled 6 RX7 D) (hr : meth.sig.returnType = some .int) (hlk : meth.locks = false) (hK0 : (K a0).1 = 17)  {x1 : Int32} {x2 : Int32} {x3 : Int32} {x4 : Int32} {s0 : Option Nat} {s1 : Int32} {s2 : Int32} (hf : f_X7_filled_27 F K R a0  I x1 x2 x3 x4 s0 s1 s2 = some (r, I')) (hW : zS (zOwn B K (B + n)) D B n K I R s.heap H locs) (hl : lv_has ls 6 [(0, .ref (B + a0)), (1, .int x1), (2, .int x2), (3, .int x3), (4, .int x4)]) : W p l e ({ frames := 6, cells := 0, slots := 0, locals := 167 } : Room) s m args below meth c H locs 0 0 (MQ below (zQi D (zOwn B K (B + n)) r B n K I' R) args s 0 0 (zOwn B K (B + n))) (F0 m 27 ls [.int s2, .int s1, zrf B s0]) := by
  unfold f_X7_filled_27 at hf
  refine lv_iconst (v := 0) X.1 X.2.1 dX7_filled_27 (by decide) ?_
  exact w_X7_filled_28 X hr hlk hK0 hf hW hl
set_option maxRecDepth 100000 in
set_option maxHeartbeats 4000000 in
theorem c_X7_filled (l : Launch) (D : zD) (B n : Nat) {F : Nat} {K : zK} {I : zI} {R : zR} {a0 : Nat} {x1 : Int32} {x2 : Int32} {x3 : Int32} {x4 : Int32} {r : Int32} {I' : zI} (hK0 : (K a0).1 = 17) (hf : f_X7_filled F K I R a0 x1 x2 x3 x4 = some (r, I')) : zM l yX7_filled cX7_filled 6 (some .int) ({ frames := 6, cells := 0, slots := 0, locals := 167 } : Room) D B n K I R [.ref (B + a0), .int x1, .int x2, .int x3, .int x4] (zQi D (zOwn B K (B + n)) r B n K I' R) := by
  refine ze_entry (lv0 := [(0, .ref (B + a0)), (1, .int x1), (2, .int x2), (3, .int x3), (4, .int x4)]) (by decide) (by simp [lg_sl, zcat, zcat_i, zcat_r, zcat_l]) (by simp [lv_args, zcat, zcat_i, zcat_r, zcat_l]) (fun p e s m below meth c X hr hlk hin hW ls hl => ?_)
  unfold f_X7_filled at hf
  refine lv_aload_n X.1 X.2.1 dX7_filled_0 rfl (lv_at hl 0 rfl) ?_
  refine lv_iload_n X.1 X.2.1 dX7_filled_1 rfl (lv_at hl 1 rfl) ?_
  refine lv_iload_n X.1 X.2.1 dX7_filled_2 rfl (lv_at hl 2 rfl) ?_
  refine lv_iload_n X.1 X.2.1 dX7_filled_3 rfl (lv_at hl 3 rfl) ?_
  refine lv_iconst (v := 0) X.1 X.2.1 dX7_filled_4 (by decide) ?_
  refine lv_bipush (v := 9) X.1 X.2.1 dX7_filled_5 (by decide) ?_
  obtain ⟨v40, h41, hg⟩ := zh_bd hf
  replace hf := hg
  refine ze_aftI0 (ze_runS (As := [.int x3, .int (0 : Int32), .int (9 : Int32)]) (rest := [.int x2, .int x1, .ref (B + a0)]) X 122 (c_X7_in l D B n h41) vX7_in kml_X7_122 hW ⟨by decide, by decide⟩ rfl hl.1 rfl (Nat.le_of_ble_eq_true rfl) ⟨Nat.le_refl _, Nat.le_refl _⟩ dX7_filled_7) hW (fun H locs hV => ?_)
  replace hW := hV
  refine lv_if_eq (tgt := 27) X.1 X.2.1 dX7_filled_10 (by decide) (fun c42 => ?_) (fun c42 => ?_)
  · replace hf := zif_pos c42 hf
    exact w_X7_filled_27 X hr hlk hK0 hf hW hl
  · replace hf := zif_neg c42 hf
    refine lv_iload X.1 X.2.1 dX7_filled_13 (lv_at hl 4 rfl) ?_
    refine lv_iconst (v := 0) X.1 X.2.1 dX7_filled_15 (by decide) ?_
    refine lv_iconst (v := 2) X.1 X.2.1 dX7_filled_16 (by decide) ?_
    obtain ⟨v43, h44, hg⟩ := zh_bd hf
    replace hf := hg
    refine ze_aftI0 (ze_runS (As := [.int x4, .int (0 : Int32), .int (2 : Int32)]) (rest := [.int x2, .int x1, .ref (B + a0)]) X 122 (c_X7_in l D B n h44) vX7_in kml_X7_122 hW ⟨by decide, by decide⟩ rfl hl.1 rfl (Nat.le_of_ble_eq_true rfl) ⟨Nat.le_refl _, Nat.le_refl _⟩ dX7_filled_17) hW (fun H locs hV => ?_)
    replace hW := hV
    refine lv_if_eq (tgt := 27) X.1 X.2.1 dX7_filled_20 (by decide) (fun c45 => ?_) (fun c45 => ?_)
    · replace hf := zif_pos c45 hf
      exact w_X7_filled_27 X hr hlk hK0 hf hW hl
    · replace hf := zif_neg c45 hf
      refine lv_iconst (v := 1) X.1 X.2.1 dX7_filled_23 (by decide) ?_
      refine lv_goto (tgt := 28) X.1 X.2.1 dX7_filled_24 (by decide) ?_
      exact w_X7_filled_28 X hr hlk hK0 hf hW hl
end

/-! LeastPatternsModel.compare(II)I -/
def f_X7_compare_56 (F : Nat) (K : zK) (R : zR) (a0 : Nat)  (I : zI) (x4 : Int32) (x5 : Int32) : Option (Int32 × zI) :=
  if x4 = (0 : Int32) then
    if x5 = (0 : Int32) then
      some ((3 : Int32), I)
    else
      some ((2 : Int32), I)
  else
    some ((1 : Int32), I)
def f_X7_compare (F : Nat) (K : zK) (I : zI) (R : zR) (a0 : Nat) (x1 : Int32) (x2 : Int32) : Option (Int32 × zI) :=
  zbd (f_X7_wrong F K I R a0 x1 x2 (1 : Int32)) fun v3 =>
  if v3 = (0 : Int32) then
    zbd2 (f_X7_matches F K I R a0 ((97 : Int32) * x1) ((97 : Int32) * x2)) fun v6 I7 =>
    zbd2 (f_X7_matches F K I7 R a0 ((97 : Int32) * x2) ((97 : Int32) * x1)) fun v9 I10 =>
    if v6 = (0 : Int32) then
      f_X7_compare_56 F K R a0 I10 v6 v9
    else
      if v9 = (0 : Int32) then
        f_X7_compare_56 F K R a0 I10 v6 v9
      else
        some ((0 : Int32), I10)
  else
    some (v3, I)
section
variable {p : Program} {l : Launch} {e : Env} {s : State} {m : MethodId} {args : Array Value} {below : List Frame} {meth : Method} {c : Code} {D : zD} {B n n0 n' fd ld : Nat} {K K0 K' : zK} {I I' : zI} {R R' : zR} {H : Heap} {locs : List Loc} {ls : Array Slot} {r : Int32}
set_option maxRecDepth 100000 in
set_option maxHeartbeats 4000000 in
theorem w_X7_compare_56 {F : Nat} {a0 : Nat}  (X : zX p s m c cX7_compare 6 RX7 D) (hr : meth.sig.returnType = some .int) (hlk : meth.locks = false) (hK0 : (K a0).1 = 17)  {x4 : Int32} {x5 : Int32} (hf : f_X7_compare_56 F K R a0  I x4 x5 = some (r, I')) (hW : zS (zOwn B K (B + n)) D B n K I R s.heap H locs) (hl : lv_has ls 6 [(0, .ref (B + a0)), (4, .int x4), (5, .int x5)]) : W p l e ({ frames := 6, cells := 0, slots := 0, locals := 167 } : Room) s m args below meth c H locs 0 0 (MQ below (zQi D (zOwn B K (B + n)) r B n K I' R) args s 0 0 (zOwn B K (B + n))) (F0 m 56 ls []) := by
  unfold f_X7_compare_56 at hf
  refine lv_iload X.1 X.2.1 dX7_compare_56 (lv_at hl 1 rfl) ?_
  refine lv_if_eq (tgt := 65) X.1 X.2.1 dX7_compare_58 (by decide) (fun c1 => ?_) (fun c1 => ?_)
  · replace hf := zif_pos c1 hf
    refine lv_iload X.1 X.2.1 dX7_compare_65 (lv_at hl 2 rfl) ?_
    refine lv_if_eq (tgt := 74) X.1 X.2.1 dX7_compare_67 (by decide) (fun c2 => ?_) (fun c2 => ?_)
    · replace hf := zif_pos c2 hf
      refine lv_iconst (v := 3) X.1 X.2.1 dX7_compare_74 (by decide) ?_
      obtain ⟨rfl, rfl⟩ := zi2 hf
      exact ze_retI X hr hlk hW (Nat.le_refl _) (Nat.le_refl _) dX7_compare_75
    · replace hf := zif_neg c2 hf
      refine lv_iconst (v := 2) X.1 X.2.1 dX7_compare_70 (by decide) ?_
      refine lv_goto (tgt := 75) X.1 X.2.1 dX7_compare_71 (by decide) ?_
      obtain ⟨rfl, rfl⟩ := zi2 hf
      exact ze_retI X hr hlk hW (Nat.le_refl _) (Nat.le_refl _) dX7_compare_75
  · replace hf := zif_neg c1 hf
    refine lv_iconst (v := 1) X.1 X.2.1 dX7_compare_61 (by decide) ?_
    refine lv_goto (tgt := 75) X.1 X.2.1 dX7_compare_62 (by decide) ?_
    obtain ⟨rfl, rfl⟩ := zi2 hf
    exact ze_retI X hr hlk hW (Nat.le_refl _) (Nat.le_refl _) dX7_compare_75
set_option maxRecDepth 100000 in
set_option maxHeartbeats 4000000 in
theorem c_X7_compare (l : Launch) (D : zD) (B n : Nat) {F : Nat} {K : zK} {I : zI} {R : zR} {a0 : Nat} {x1 : Int32} {x2 : Int32} {r : Int32} {I' : zI} (hK0 : (K a0).1 = 17) (hf : f_X7_compare F K I R a0 x1 x2 = some (r, I')) : zM l yX7_compare cX7_compare 6 (some .int) ({ frames := 6, cells := 0, slots := 0, locals := 167 } : Room) D B n K I R [.ref (B + a0), .int x1, .int x2] (zQi D (zOwn B K (B + n)) r B n K I' R) := by
  refine ze_entry (lv0 := [(0, .ref (B + a0)), (1, .int x1), (2, .int x2)]) (by decide) (by simp [lg_sl, zcat, zcat_i, zcat_r, zcat_l]) (by simp [lv_args, zcat, zcat_i, zcat_r, zcat_l]) (fun p e s m below meth c X hr hlk hin hW ls hl => ?_)
  unfold f_X7_compare at hf
  refine lv_aload_n X.1 X.2.1 dX7_compare_0 rfl (lv_at hl 0 rfl) ?_
  refine lv_iload_n X.1 X.2.1 dX7_compare_1 rfl (lv_at hl 1 rfl) ?_
  refine lv_iload_n X.1 X.2.1 dX7_compare_2 rfl (lv_at hl 2 rfl) ?_
  refine lv_iconst (v := 1) X.1 X.2.1 dX7_compare_3 (by decide) ?_
  obtain ⟨v3, h4, hg⟩ := zh_bd hf
  replace hf := hg
  refine ze_aftI0 (ze_runV (As := [.int x1, .int x2, .int (1 : Int32)]) (rest := []) X 7 254 (c_X7_wrong l D B n hK0 h4) vX7_wrong kml_X7_254 hW hK0 rfl rfl ⟨by decide, by decide⟩ rfl hl.1 rfl (Nat.le_of_ble_eq_true rfl) ⟨Nat.le_refl _, Nat.le_refl _⟩ dX7_compare_4) hW (fun H locs hV => ?_)
  replace hW := hV
  refine lv_istore_n (i := 3) (lv' := [(3, .int v3), (0, .ref (B + a0)), (1, .int x1), (2, .int x2)]) X.1 X.2.1 dX7_compare_7 rfl hl (by decide) rfl (fun ls hk => ?_)
  replace hl := hk
  refine lv_iload_n X.1 X.2.1 dX7_compare_8 rfl (lv_at hl 0 rfl) ?_
  refine lv_if_eq (tgt := 14) X.1 X.2.1 dX7_compare_9 (by decide) (fun c5 => ?_) (fun c5 => ?_)
  · replace hf := zif_pos c5 hf
    refine lv_aload_n X.1 X.2.1 dX7_compare_14 rfl (lv_at hl 1 rfl) ?_
    refine lv_bipush (v := 97) X.1 X.2.1 dX7_compare_15 (by decide) ?_
    refine lv_iload_n X.1 X.2.1 dX7_compare_17 rfl (lv_at hl 2 rfl) ?_
    refine lv_imul X.1 X.2.1 dX7_compare_18 ?_
    refine lv_bipush (v := 97) X.1 X.2.1 dX7_compare_19 (by decide) ?_
    refine lv_iload_n X.1 X.2.1 dX7_compare_21 rfl (lv_at hl 3 rfl) ?_
    refine lv_imul X.1 X.2.1 dX7_compare_22 ?_
    obtain ⟨v6, I7, h8, hg⟩ := zh_bd2 hf
    replace hf := hg
    refine ze_aftI0 (ze_runV (As := [.int ((97 : Int32) * x1), .int ((97 : Int32) * x2)]) (rest := []) X 7 274 (c_X7_matches l D B n hK0 h8) vX7_matches kml_X7_274 hW hK0 rfl rfl ⟨by decide, by decide⟩ rfl hl.1 rfl (Nat.le_of_ble_eq_true rfl) ⟨Nat.le_refl _, Nat.le_refl _⟩ dX7_compare_23) hW (fun H locs hV => ?_)
    replace hW := hV
    refine lv_istore (lv' := [(4, .int v6), (3, .int v3), (0, .ref (B + a0)), (1, .int x1), (2, .int x2)]) X.1 X.2.1 dX7_compare_26 hl (by decide) rfl (fun ls hk => ?_)
    replace hl := hk
    refine lv_aload_n X.1 X.2.1 dX7_compare_28 rfl (lv_at hl 2 rfl) ?_
    refine lv_bipush (v := 97) X.1 X.2.1 dX7_compare_29 (by decide) ?_
    refine lv_iload_n X.1 X.2.1 dX7_compare_31 rfl (lv_at hl 4 rfl) ?_
    refine lv_imul X.1 X.2.1 dX7_compare_32 ?_
    refine lv_bipush (v := 97) X.1 X.2.1 dX7_compare_33 (by decide) ?_
    refine lv_iload_n X.1 X.2.1 dX7_compare_35 rfl (lv_at hl 3 rfl) ?_
    refine lv_imul X.1 X.2.1 dX7_compare_36 ?_
    obtain ⟨v9, I10, h11, hg⟩ := zh_bd2 hf
    replace hf := hg
    refine ze_aftI0 (ze_runV (As := [.int ((97 : Int32) * x2), .int ((97 : Int32) * x1)]) (rest := []) X 7 274 (c_X7_matches l D B n hK0 h11) vX7_matches kml_X7_274 hW hK0 rfl rfl ⟨by decide, by decide⟩ rfl hl.1 rfl (Nat.le_of_ble_eq_true rfl) ⟨Nat.le_refl _, Nat.le_refl _⟩ dX7_compare_37) hW (fun H locs hV => ?_)
    replace hW := hV
    refine lv_istore (lv' := [(5, .int v9), (4, .int v6), (3, .int v3), (0, .ref (B + a0)), (1, .int x1), (2, .int x2)]) X.1 X.2.1 dX7_compare_40 hl (by decide) rfl (fun ls hk => ?_)
    replace hl := hk
    refine lv_iload X.1 X.2.1 dX7_compare_42 (lv_at hl 1 rfl) ?_
    refine lv_if_eq (tgt := 56) X.1 X.2.1 dX7_compare_44 (by decide) (fun c12 => ?_) (fun c12 => ?_)
    · replace hf := zif_pos c12 hf
      exact w_X7_compare_56 X hr hlk hK0 hf hW (lv_sub hl [3, 1, 0] rfl)
    · replace hf := zif_neg c12 hf
      refine lv_iload X.1 X.2.1 dX7_compare_47 (lv_at hl 0 rfl) ?_
      refine lv_if_eq (tgt := 56) X.1 X.2.1 dX7_compare_49 (by decide) (fun c13 => ?_) (fun c13 => ?_)
      · replace hf := zif_pos c13 hf
        exact w_X7_compare_56 X hr hlk hK0 hf hW (lv_sub hl [3, 1, 0] rfl)
      · replace hf := zif_neg c13 hf
        refine lv_iconst (v := 0) X.1 X.2.1 dX7_compare_52 (by decide) ?_
        refine lv_goto (tgt := 75) X.1 X.2.1 dX7_compare_53 (by decide) ?_
        obtain ⟨rfl, rfl⟩ := zi2 hf
        exact ze_retI X hr hlk hW (Nat.le_refl _) (Nat.le_refl _) dX7_compare_75
  · replace hf := zif_neg c5 hf
    refine lv_iload_n X.1 X.2.1 dX7_compare_12 rfl (lv_at hl 0 rfl) ?_
    obtain ⟨rfl, rfl⟩ := zi2 hf
    exact ze_retI X hr hlk hW (Nat.le_refl _) (Nat.le_refl _) dX7_compare_13
end

/-! LeastPatternsModel.coveredBy(I)I -/
def f_X7_coveredBy_41 (F : Nat) (K : zK) (R : zR) (a0 : Nat) (k4 : zI → Int32 → Int32 → Int32 → Option (Int32 × zI)) (I : zI) (x1 : Int32) (x3 : Int32) (s0 : Int32) (s1 : Int32) : Option (Int32 × zI) :=
  zbd (some (s0 ||| s1)) fun v1 =>
  k4 I x1 v1 (x3 + (1 : Int32))
def f_X7_coveredBy_40 (F : Nat) (K : zK) (R : zR) (a0 : Nat) (k4 : zI → Int32 → Int32 → Int32 → Option (Int32 × zI)) (I : zI) (x1 : Int32) (x3 : Int32) (s0 : Int32) : Option (Int32 × zI) :=
  f_X7_coveredBy_41 F K R a0 k4 I x1 x3 s0 (0 : Int32)
def g_X7_coveredBy_4 (F : Nat) (K : zK) (R : zR) (a0 : Nat)  (kself : zI → Int32 → Int32 → Int32 → Option (Int32 × zI)) (I : zI) (x1 : Int32) (x2 : Int32) (x3 : Int32) : Option (Int32 × zI) :=
  if (8 : Int32) ≤ x3 then
    some (x2, I)
  else
    zbd (f_X7_isEmpty F K I R a0 x3) fun v3 =>
    if v3 = (0 : Int32) then
      zbd2 (f_X7_matches F K I R a0 ((97 : Int32) * x1) ((97 : Int32) * x3)) fun v6 I7 =>
      if v6 = (0 : Int32) then
        f_X7_coveredBy_40 F K R a0 kself I7 x1 x3 x2
      else
        f_X7_coveredBy_41 F K R a0 kself I7 x1 x3 x2 ((1 : Int32) <<< (x3 &&& 31))
    else
      f_X7_coveredBy_40 F K R a0 kself I x1 x3 x2
def f_X7_coveredBy_4 (F : Nat) (K : zK) (R : zR) (a0 : Nat)  : Nat → zI → Int32 → Int32 → Int32 → Option (Int32 × zI)
  | 0, _, _, _, _ => none
  | t + 1, I, x1, x2, x3 => g_X7_coveredBy_4 F K R a0  (f_X7_coveredBy_4 F K R a0  t) I x1 x2 x3
def f_X7_coveredBy (F : Nat) (K : zK) (I : zI) (R : zR) (a0 : Nat) (x1 : Int32) : Option (Int32 × zI) :=
  f_X7_coveredBy_4 F K R a0 F I x1 (0 : Int32) (0 : Int32)
section
variable {p : Program} {l : Launch} {e : Env} {s : State} {m : MethodId} {args : Array Value} {below : List Frame} {meth : Method} {c : Code} {D : zD} {B n n0 n' fd ld : Nat} {K K0 K' : zK} {I I' : zI} {R R' : zR} {H : Heap} {locs : List Loc} {ls : Array Slot} {r : Int32}
set_option maxRecDepth 100000 in
set_option maxHeartbeats 4000000 in
theorem w_X7_coveredBy_41 {F : Nat} {a0 : Nat} {k4 : zI → Int32 → Int32 → Int32 → Option (Int32 × zI)} (X : zX p s m c cX7_coveredBy 4 RX7 D) (hr : meth.sig.returnType = some .int) (hlk : meth.locks = false) (hK0 : (K a0).1 = 17) (hk4 : ∀ (I : zI) (x1 : Int32) (x2 : Int32) (x3 : Int32) (H : Heap) (locs : List Loc) (ls : Array Slot), k4 I x1 x2 x3 = some (r, I') → zS (zOwn B K (B + n)) D B n K I R s.heap H locs → lv_has ls 4 [(0, .ref (B + a0)), (1, .int x1), (2, .int x2), (3, .int x3)] → W p l e ({ frames := 6, cells := 0, slots := 0, locals := 167 } : Room) s m args below meth c H locs 0 0 (MQ below (zQi D (zOwn B K (B + n)) r B n K I' R) args s 0 0 (zOwn B K (B + n))) (F0 m 4 ls [])) {x1 : Int32} {x3 : Int32} {s0 : Int32} {s1 : Int32} (hf : f_X7_coveredBy_41 F K R a0 k4 I x1 x3 s0 s1 = some (r, I')) (hW : zS (zOwn B K (B + n)) D B n K I R s.heap H locs) (hl : lv_has ls 4 [(0, .ref (B + a0)), (1, .int x1), (3, .int x3)]) : W p l e ({ frames := 6, cells := 0, slots := 0, locals := 167 } : Room) s m args below meth c H locs 0 0 (MQ below (zQi D (zOwn B K (B + n)) r B n K I' R) args s 0 0 (zOwn B K (B + n))) (F0 m 41 ls [.int s1, .int s0]) := by
  unfold f_X7_coveredBy_41 at hf
  refine lv_ior X.1 X.2.1 dX7_coveredBy_41 ?_
  refine ze_nm hf (fun v1 hg => ?_)
  replace hf := hg
  refine lv_istore_n (i := 2) (lv' := [(2, .int v1), (0, .ref (B + a0)), (1, .int x1), (3, .int x3)]) X.1 X.2.1 dX7_coveredBy_42 rfl hl (by decide) rfl (fun ls hk => ?_)
  replace hl := hk
  refine ze_iinc (lv' := [(3, .int (x3 + (1 : Int32))), (2, .int v1), (0, .ref (B + a0)), (1, .int x1)]) (d := 1) X.1 X.2.1 dX7_coveredBy_43 hl (k := 3) rfl (by decide) (by decide) rfl (fun ls hk => ?_)
  replace hl := hk
  refine lv_goto (tgt := 4) X.1 X.2.1 dX7_coveredBy_46 (by decide) ?_
  exact hk4 _ _ _ _ _ _ _ hf hW (lv_sub hl [2, 3, 1, 0] rfl)
set_option maxRecDepth 100000 in
set_option maxHeartbeats 4000000 in
theorem w_X7_coveredBy_40 {F : Nat} {a0 : Nat} {k4 : zI → Int32 → Int32 → Int32 → Option (Int32 × zI)} (X : zX p s m c cX7_coveredBy 4 RX7 D) (hr : meth.sig.returnType = some .int) (hlk : meth.locks = false) (hK0 : (K a0).1 = 17) (hk4 : ∀ (I : zI) (x1 : Int32) (x2 : Int32) (x3 : Int32) (H : Heap) (locs : List Loc) (ls : Array Slot), k4 I x1 x2 x3 = some (r, I') → zS (zOwn B K (B + n)) D B n K I R s.heap H locs → lv_has ls 4 [(0, .ref (B + a0)), (1, .int x1), (2, .int x2), (3, .int x3)] → W p l e ({ frames := 6, cells := 0, slots := 0, locals := 167 } : Room) s m args below meth c H locs 0 0 (MQ below (zQi D (zOwn B K (B + n)) r B n K I' R) args s 0 0 (zOwn B K (B + n))) (F0 m 4 ls [])) {x1 : Int32} {x3 : Int32} {s0 : Int32} (hf : f_X7_coveredBy_40 F K R a0 k4 I x1 x3 s0 = some (r, I')) (hW : zS (zOwn B K (B + n)) D B n K I R s.heap H locs) (hl : lv_has ls 4 [(0, .ref (B + a0)), (1, .int x1), (3, .int x3)]) : W p l e ({ frames := 6, cells := 0, slots := 0, locals := 167 } : Room) s m args below meth c H locs 0 0 (MQ below (zQi D (zOwn B K (B + n)) r B n K I' R) args s 0 0 (zOwn B K (B + n))) (F0 m 40 ls [.int s0]) := by
  unfold f_X7_coveredBy_40 at hf
  refine lv_iconst (v := 0) X.1 X.2.1 dX7_coveredBy_40 (by decide) ?_
  exact w_X7_coveredBy_41 X hr hlk hK0 hk4 hf hW hl
set_option maxRecDepth 100000 in
set_option maxHeartbeats 4000000 in
theorem wg_X7_coveredBy_4 {F : Nat} {a0 : Nat}  (X : zX p s m c cX7_coveredBy 4 RX7 D) (hr : meth.sig.returnType = some .int) (hlk : meth.locks = false) (hK0 : (K a0).1 = 17)  {kself : zI → Int32 → Int32 → Int32 → Option (Int32 × zI)} (hkself : ∀ (I : zI) (x1 : Int32) (x2 : Int32) (x3 : Int32) (H : Heap) (locs : List Loc) (ls : Array Slot), kself I x1 x2 x3 = some (r, I') → zS (zOwn B K (B + n)) D B n K I R s.heap H locs → lv_has ls 4 [(0, .ref (B + a0)), (1, .int x1), (2, .int x2), (3, .int x3)] → W p l e ({ frames := 6, cells := 0, slots := 0, locals := 167 } : Room) s m args below meth c H locs 0 0 (MQ below (zQi D (zOwn B K (B + n)) r B n K I' R) args s 0 0 (zOwn B K (B + n))) (F0 m 4 ls [])) {x1 : Int32} {x2 : Int32} {x3 : Int32} (hf : g_X7_coveredBy_4 F K R a0  kself I x1 x2 x3 = some (r, I')) (hW : zS (zOwn B K (B + n)) D B n K I R s.heap H locs) (hl : lv_has ls 4 [(0, .ref (B + a0)), (1, .int x1), (2, .int x2), (3, .int x3)]) : W p l e ({ frames := 6, cells := 0, slots := 0, locals := 167 } : Room) s m args below meth c H locs 0 0 (MQ below (zQi D (zOwn B K (B + n)) r B n K I' R) args s 0 0 (zOwn B K (B + n))) (F0 m 4 ls []) := by
  unfold g_X7_coveredBy_4 at hf
  refine lv_iload_n X.1 X.2.1 dX7_coveredBy_4 rfl (lv_at hl 3 rfl) ?_
  refine lv_bipush (v := 8) X.1 X.2.1 dX7_coveredBy_5 (by decide) ?_
  refine lv_icmp_ge (tgt := 49) X.1 X.2.1 dX7_coveredBy_7 (by decide) (fun c2 => ?_) (fun c2 => ?_)
  · replace hf := zif_pos c2 hf
    refine lv_iload_n X.1 X.2.1 dX7_coveredBy_49 rfl (lv_at hl 2 rfl) ?_
    obtain ⟨rfl, rfl⟩ := zi2 hf
    exact ze_retI X hr hlk hW (Nat.le_refl _) (Nat.le_refl _) dX7_coveredBy_50
  · replace hf := zif_neg c2 hf
    refine lv_iload_n X.1 X.2.1 dX7_coveredBy_10 rfl (lv_at hl 2 rfl) ?_
    refine lv_aload_n X.1 X.2.1 dX7_coveredBy_11 rfl (lv_at hl 0 rfl) ?_
    refine lv_iload_n X.1 X.2.1 dX7_coveredBy_12 rfl (lv_at hl 3 rfl) ?_
    obtain ⟨v3, h4, hg⟩ := zh_bd hf
    replace hf := hg
    refine ze_aftI0 (ze_runV (As := [.int x3]) (rest := [.int x2]) X 7 204 (c_X7_isEmpty l D B n hK0 h4) vX7_isEmpty kml_X7_204 hW hK0 rfl rfl ⟨by decide, by decide⟩ rfl hl.1 rfl (Nat.le_of_ble_eq_true rfl) ⟨Nat.le_refl _, Nat.le_refl _⟩ dX7_coveredBy_13) hW (fun H locs hV => ?_)
    replace hW := hV
    refine lv_if_ne (tgt := 40) X.1 X.2.1 dX7_coveredBy_16 (by decide) (fun c5 => ?_) (fun c5 => ?_)
    · replace hf := zif_neg c5 hf
      exact w_X7_coveredBy_40 X hr hlk hK0 hkself hf hW (lv_sub hl [0, 1, 3] rfl)
    · replace hf := zif_pos c5 hf
      refine lv_aload_n X.1 X.2.1 dX7_coveredBy_19 rfl (lv_at hl 0 rfl) ?_
      refine lv_bipush (v := 97) X.1 X.2.1 dX7_coveredBy_20 (by decide) ?_
      refine lv_iload_n X.1 X.2.1 dX7_coveredBy_22 rfl (lv_at hl 1 rfl) ?_
      refine lv_imul X.1 X.2.1 dX7_coveredBy_23 ?_
      refine lv_bipush (v := 97) X.1 X.2.1 dX7_coveredBy_24 (by decide) ?_
      refine lv_iload_n X.1 X.2.1 dX7_coveredBy_26 rfl (lv_at hl 3 rfl) ?_
      refine lv_imul X.1 X.2.1 dX7_coveredBy_27 ?_
      obtain ⟨v6, I7, h8, hg⟩ := zh_bd2 hf
      replace hf := hg
      refine ze_aftI0 (ze_runV (As := [.int ((97 : Int32) * x1), .int ((97 : Int32) * x3)]) (rest := [.int x2]) X 7 274 (c_X7_matches l D B n hK0 h8) vX7_matches kml_X7_274 hW hK0 rfl rfl ⟨by decide, by decide⟩ rfl hl.1 rfl (Nat.le_of_ble_eq_true rfl) ⟨Nat.le_refl _, Nat.le_refl _⟩ dX7_coveredBy_28) hW (fun H locs hV => ?_)
      replace hW := hV
      refine lv_if_eq (tgt := 40) X.1 X.2.1 dX7_coveredBy_31 (by decide) (fun c9 => ?_) (fun c9 => ?_)
      · replace hf := zif_pos c9 hf
        exact w_X7_coveredBy_40 X hr hlk hK0 hkself hf hW (lv_sub hl [0, 1, 3] rfl)
      · replace hf := zif_neg c9 hf
        refine lv_iconst (v := 1) X.1 X.2.1 dX7_coveredBy_34 (by decide) ?_
        refine lv_iload_n X.1 X.2.1 dX7_coveredBy_35 rfl (lv_at hl 3 rfl) ?_
        refine lv_ishl X.1 X.2.1 dX7_coveredBy_36 ?_
        refine lv_goto (tgt := 41) X.1 X.2.1 dX7_coveredBy_37 (by decide) ?_
        exact w_X7_coveredBy_41 X hr hlk hK0 hkself hf hW (lv_sub hl [0, 1, 3] rfl)
set_option maxRecDepth 100000 in
set_option maxHeartbeats 4000000 in
theorem w_X7_coveredBy_4 {F : Nat} {a0 : Nat}  (X : zX p s m c cX7_coveredBy 4 RX7 D) (hr : meth.sig.returnType = some .int) (hlk : meth.locks = false) (hK0 : (K a0).1 = 17)  {t : Nat} {x1 : Int32} {x2 : Int32} {x3 : Int32} (hf : f_X7_coveredBy_4 F K R a0  t I x1 x2 x3 = some (r, I')) (hW : zS (zOwn B K (B + n)) D B n K I R s.heap H locs) (hl : lv_has ls 4 [(0, .ref (B + a0)), (1, .int x1), (2, .int x2), (3, .int x3)]) : W p l e ({ frames := 6, cells := 0, slots := 0, locals := 167 } : Room) s m args below meth c H locs 0 0 (MQ below (zQi D (zOwn B K (B + n)) r B n K I' R) args s 0 0 (zOwn B K (B + n))) (F0 m 4 ls []) := by
  have key : ∀ t : Nat, ∀ (I : zI) (x1 : Int32) (x2 : Int32) (x3 : Int32) (H : Heap) (locs : List Loc) (ls : Array Slot), f_X7_coveredBy_4 F K R a0  t I x1 x2 x3 = some (r, I') → zS (zOwn B K (B + n)) D B n K I R s.heap H locs → lv_has ls 4 [(0, .ref (B + a0)), (1, .int x1), (2, .int x2), (3, .int x3)] → W p l e ({ frames := 6, cells := 0, slots := 0, locals := 167 } : Room) s m args below meth c H locs 0 0 (MQ below (zQi D (zOwn B K (B + n)) r B n K I' R) args s 0 0 (zOwn B K (B + n))) (F0 m 4 ls []) := by
    intro t
    induction t with
    | zero =>
      intro I x1 x2 x3 H locs ls hf hW hl
      cases hf
    | succ t ih =>
      intro I x1 x2 x3 H locs ls hf hW hl
      exact wg_X7_coveredBy_4 X hr hlk hK0  ih hf hW hl
  exact key t _ _ _ _ _ _ _ hf hW hl
set_option maxRecDepth 100000 in
set_option maxHeartbeats 4000000 in
theorem c_X7_coveredBy (l : Launch) (D : zD) (B n : Nat) {F : Nat} {K : zK} {I : zI} {R : zR} {a0 : Nat} {x1 : Int32} {r : Int32} {I' : zI} (hK0 : (K a0).1 = 17) (hf : f_X7_coveredBy F K I R a0 x1 = some (r, I')) : zM l yX7_coveredBy cX7_coveredBy 4 (some .int) ({ frames := 6, cells := 0, slots := 0, locals := 167 } : Room) D B n K I R [.ref (B + a0), .int x1] (zQi D (zOwn B K (B + n)) r B n K I' R) := by
  refine ze_entry (lv0 := [(0, .ref (B + a0)), (1, .int x1)]) (by decide) (by simp [lg_sl, zcat, zcat_i, zcat_r, zcat_l]) (by simp [lv_args, zcat, zcat_i, zcat_r, zcat_l]) (fun p e s m below meth c X hr hlk hin hW ls hl => ?_)
  unfold f_X7_coveredBy at hf
  refine lv_iconst (v := 0) X.1 X.2.1 dX7_coveredBy_0 (by decide) ?_
  refine lv_istore_n (i := 2) (lv' := [(2, .int (0 : Int32)), (0, .ref (B + a0)), (1, .int x1)]) X.1 X.2.1 dX7_coveredBy_1 rfl hl (by decide) rfl (fun ls hk => ?_)
  replace hl := hk
  refine lv_iconst (v := 0) X.1 X.2.1 dX7_coveredBy_2 (by decide) ?_
  refine lv_istore_n (i := 3) (lv' := [(3, .int (0 : Int32)), (2, .int (0 : Int32)), (0, .ref (B + a0)), (1, .int x1)]) X.1 X.2.1 dX7_coveredBy_3 rfl hl (by decide) rfl (fun ls hk => ?_)
  replace hl := hk
  exact w_X7_coveredBy_4 X hr hlk hK0 hf hW (lv_sub hl [2, 3, 1, 0] rfl)
end

/-! LeastPatternsModel.covered(I)I -/
def f_X7_covered (F : Nat) (K : zK) (I : zI) (R : zR) (a0 : Nat) (x1 : Int32) : Option (Int32 × zI) :=
  zbd (f_X7_wrong F K I R a0 x1 x1 (1 : Int32)) fun v1 =>
  if v1 = (0 : Int32) then
    zbd2 (f_X7_coveredBy F K I R a0 x1) fun v4 I5 =>
    some (v4, I5)
  else
    some (v1, I)
section
variable {p : Program} {l : Launch} {e : Env} {s : State} {m : MethodId} {args : Array Value} {below : List Frame} {meth : Method} {c : Code} {D : zD} {B n n0 n' fd ld : Nat} {K K0 K' : zK} {I I' : zI} {R R' : zR} {H : Heap} {locs : List Loc} {ls : Array Slot} {r : Int32}
set_option maxRecDepth 100000 in
set_option maxHeartbeats 4000000 in
theorem c_X7_covered (l : Launch) (D : zD) (B n : Nat) {F : Nat} {K : zK} {I : zI} {R : zR} {a0 : Nat} {x1 : Int32} {r : Int32} {I' : zI} (hK0 : (K a0).1 = 17) (hf : f_X7_covered F K I R a0 x1 = some (r, I')) : zM l yX7_covered cX7_covered 3 (some .int) ({ frames := 7, cells := 0, slots := 0, locals := 190 } : Room) D B n K I R [.ref (B + a0), .int x1] (zQi D (zOwn B K (B + n)) r B n K I' R) := by
  refine ze_entry (lv0 := [(0, .ref (B + a0)), (1, .int x1)]) (by decide) (by simp [lg_sl, zcat, zcat_i, zcat_r, zcat_l]) (by simp [lv_args, zcat, zcat_i, zcat_r, zcat_l]) (fun p e s m below meth c X hr hlk hin hW ls hl => ?_)
  unfold f_X7_covered at hf
  refine lv_aload_n X.1 X.2.1 dX7_covered_0 rfl (lv_at hl 0 rfl) ?_
  refine lv_iload_n X.1 X.2.1 dX7_covered_1 rfl (lv_at hl 1 rfl) ?_
  refine lv_iload_n X.1 X.2.1 dX7_covered_2 rfl (lv_at hl 1 rfl) ?_
  refine lv_iconst (v := 1) X.1 X.2.1 dX7_covered_3 (by decide) ?_
  obtain ⟨v1, h2, hg⟩ := zh_bd hf
  replace hf := hg
  refine ze_aftI0 (ze_runV (As := [.int x1, .int x1, .int (1 : Int32)]) (rest := []) X 7 254 (c_X7_wrong l D B n hK0 h2) vX7_wrong kml_X7_254 hW hK0 rfl rfl ⟨by decide, by decide⟩ rfl hl.1 rfl (Nat.le_of_ble_eq_true rfl) ⟨Nat.le_refl _, Nat.le_refl _⟩ dX7_covered_4) hW (fun H locs hV => ?_)
  replace hW := hV
  refine lv_istore_n (i := 2) (lv' := [(2, .int v1), (0, .ref (B + a0)), (1, .int x1)]) X.1 X.2.1 dX7_covered_7 rfl hl (by decide) rfl (fun ls hk => ?_)
  replace hl := hk
  refine lv_iload_n X.1 X.2.1 dX7_covered_8 rfl (lv_at hl 0 rfl) ?_
  refine lv_if_eq (tgt := 16) X.1 X.2.1 dX7_covered_9 (by decide) (fun c3 => ?_) (fun c3 => ?_)
  · replace hf := zif_pos c3 hf
    refine lv_aload_n X.1 X.2.1 dX7_covered_16 rfl (lv_at hl 1 rfl) ?_
    refine lv_iload_n X.1 X.2.1 dX7_covered_17 rfl (lv_at hl 2 rfl) ?_
    obtain ⟨v4, I5, h6, hg⟩ := zh_bd2 hf
    replace hf := hg
    refine ze_aftI0 (ze_runV (As := [.int x1]) (rest := []) X 7 277 (c_X7_coveredBy l D B n hK0 h6) vX7_coveredBy kml_X7_277 hW hK0 rfl rfl ⟨by decide, by decide⟩ rfl hl.1 rfl (Nat.le_of_ble_eq_true rfl) ⟨Nat.le_refl _, Nat.le_refl _⟩ dX7_covered_18) hW (fun H locs hV => ?_)
    replace hW := hV
    obtain ⟨rfl, rfl⟩ := zi2 hf
    exact ze_retI X hr hlk hW (Nat.le_refl _) (Nat.le_refl _) dX7_covered_21
  · replace hf := zif_neg c3 hf
    refine lv_iload_n X.1 X.2.1 dX7_covered_12 rfl (lv_at hl 0 rfl) ?_
    refine lv_goto (tgt := 21) X.1 X.2.1 dX7_covered_13 (by decide) ?_
    obtain ⟨rfl, rfl⟩ := zi2 hf
    exact ze_retI X hr hlk hW (Nat.le_refl _) (Nat.le_refl _) dX7_covered_21
end

/-! LeastPatternsModel.isLike(IIII)Z -/
def f_X7_isLike (F : Nat) (K : zK) (I : zI) (R : zR) (a0 : Nat) (x1 : Int32) (x2 : Int32) (x3 : Int32) (x4 : Int32) : Option (Int32) :=
  if x4 = (2 : Int32) then
    zbd (some (R a0 30)) fun o31 =>
    zbd (zdr K o31 1) fun a32 =>
    zbd (zrd K I a32 x2) fun v35 =>
    zbd (f_X7_sort F K I R a0 x1 v35) fun v36 =>
    zbd (some (R a0 30)) fun o38 =>
    zbd (zdr K o38 1) fun a39 =>
    zbd (zrd K I a39 x3) fun v42 =>
    zbd (f_X7_sort F K I R a0 x1 v42) fun v43 =>
    if v36 = v43 then
      zbd (some (R a0 30)) fun o46 =>
      zbd (zdr K o46 1) fun a47 =>
      zbd (zrd K I a47 x2) fun v50 =>
      zbd (f_X7_number F K I R a0 x1 v50) fun v51 =>
      zbd (some (R a0 30)) fun o53 =>
      zbd (zdr K o53 1) fun a54 =>
      zbd (zrd K I a54 x3) fun v57 =>
      zbd (f_X7_number F K I R a0 x1 v57) fun v58 =>
      if v51 = v58 then
        some (1 : Int32)
      else
        some (0 : Int32)
    else
      some (0 : Int32)
  else
    zbd (some (R a0 31)) fun o2 =>
    zbd (zdr K o2 1) fun a3 =>
    zbd (zrd K I a3 x2) fun v6 =>
    zbd (some (R a0 31)) fun o7 =>
    zbd (zdr K o7 1) fun a8 =>
    zbd (zrd K I a8 x3) fun v11 =>
    if v6 = v11 then
      zbd (some (R a0 30)) fun o13 =>
      zbd (zdr K o13 1) fun a14 =>
      zbd (zrd K I a14 x2) fun v17 =>
      zbd (some (R a0 30)) fun o18 =>
      zbd (zdr K o18 1) fun a19 =>
      zbd (zrd K I a19 x3) fun v22 =>
      zbd (some (R a0 31)) fun o23 =>
      zbd (zdr K o23 1) fun a24 =>
      zbd (zrd K I a24 x2) fun v27 =>
      zbd (f_X7_isSame F K I R a0 x1 v17 x1 v22 v27) fun v28 =>
      if v28 = (0 : Int32) then
        some (0 : Int32)
      else
        some (1 : Int32)
    else
      some (0 : Int32)
section
variable {p : Program} {l : Launch} {e : Env} {s : State} {m : MethodId} {args : Array Value} {below : List Frame} {meth : Method} {c : Code} {D : zD} {B n n0 n' fd ld : Nat} {K K0 K' : zK} {I I' : zI} {R R' : zR} {H : Heap} {locs : List Loc} {ls : Array Slot} {r : Int32}
set_option maxRecDepth 100000 in
set_option maxHeartbeats 4000000 in
theorem c_X7_isLike (l : Launch) (D : zD) (B n : Nat) {F : Nat} {K : zK} {I : zI} {R : zR} {a0 : Nat} {x1 : Int32} {x2 : Int32} {x3 : Int32} {x4 : Int32} {r : Int32} (hK0 : (K a0).1 = 17) (hf : f_X7_isLike F K I R a0 x1 x2 x3 x4 = some r) : zM l yX7_isLike cX7_isLike 5 (some .boolean) ({ frames := 2, cells := 0, slots := 0, locals := 67 } : Room) D B n K I R [.ref (B + a0), .int x1, .int x2, .int x3, .int x4] (zQi D (zOwn B K (B + n)) r B n K I R) := by
  refine ze_entry (lv0 := [(0, .ref (B + a0)), (1, .int x1), (2, .int x2), (3, .int x3), (4, .int x4)]) (by decide) (by simp [lg_sl, zcat, zcat_i, zcat_r, zcat_l]) (by simp [lv_args, zcat, zcat_i, zcat_r, zcat_l]) (fun p e s m below meth c X hr hlk hin hW ls hl => ?_)
  unfold f_X7_isLike at hf
  refine lv_iload X.1 X.2.1 dX7_isLike_0 (lv_at hl 4 rfl) ?_
  refine lv_iconst (v := 2) X.1 X.2.1 dX7_isLike_2 (by decide) ?_
  refine lv_icmp_ne (tgt := 62) X.1 X.2.1 dX7_isLike_3 (by decide) (fun c1 => ?_) (fun c1 => ?_)
  · replace hf := zif_neg c1 hf
    refine lv_aload_n X.1 X.2.1 dX7_isLike_62 rfl (lv_at hl 0 rfl) ?_
    refine ze_gtR X 7 31 84 (RX7, TX7, 39) rfl hf hW hK0 rfl (by decide) kfl_X7_84 dX7_isLike_63 (fun o2 hg => ?_)
    replace hf := hg
    refine lv_iload_n X.1 X.2.1 dX7_isLike_66 rfl (lv_at hl 2 rfl) ?_
    obtain ⟨a3, rfl, k5, hg⟩ := zh_dr hf
    replace hf := hg
    refine ze_iald X hf hW k5 dX7_isLike_67 (fun v6 hg => ?_)
    replace hf := hg
    refine lv_aload_n X.1 X.2.1 dX7_isLike_68 rfl (lv_at hl 0 rfl) ?_
    refine ze_gtR X 7 31 84 (RX7, TX7, 39) rfl hf hW hK0 rfl (by decide) kfl_X7_84 dX7_isLike_69 (fun o7 hg => ?_)
    replace hf := hg
    refine lv_iload_n X.1 X.2.1 dX7_isLike_72 rfl (lv_at hl 3 rfl) ?_
    obtain ⟨a8, rfl, k10, hg⟩ := zh_dr hf
    replace hf := hg
    refine ze_iald X hf hW k10 dX7_isLike_73 (fun v11 hg => ?_)
    replace hf := hg
    refine lv_icmp_ne (tgt := 108) X.1 X.2.1 dX7_isLike_74 (by decide) (fun c12 => ?_) (fun c12 => ?_)
    · replace hf := zif_neg c12 hf
      refine lv_iconst (v := 0) X.1 X.2.1 dX7_isLike_108 (by decide) ?_
      obtain rfl := zi1 hf
      exact ze_retZ X hr hlk (by decide) hW (Nat.le_refl _) (Nat.le_refl _) dX7_isLike_109
    · replace hf := zif_pos c12 hf
      refine lv_aload_n X.1 X.2.1 dX7_isLike_77 rfl (lv_at hl 0 rfl) ?_
      refine lv_iload_n X.1 X.2.1 dX7_isLike_78 rfl (lv_at hl 1 rfl) ?_
      refine lv_aload_n X.1 X.2.1 dX7_isLike_79 rfl (lv_at hl 0 rfl) ?_
      refine ze_gtR X 7 30 81 (RX7, TX7, 39) rfl hf hW hK0 rfl (by decide) kfl_X7_81 dX7_isLike_80 (fun o13 hg => ?_)
      replace hf := hg
      refine lv_iload_n X.1 X.2.1 dX7_isLike_83 rfl (lv_at hl 2 rfl) ?_
      obtain ⟨a14, rfl, k16, hg⟩ := zh_dr hf
      replace hf := hg
      refine ze_iald X hf hW k16 dX7_isLike_84 (fun v17 hg => ?_)
      replace hf := hg
      refine lv_iload_n X.1 X.2.1 dX7_isLike_85 rfl (lv_at hl 1 rfl) ?_
      refine lv_aload_n X.1 X.2.1 dX7_isLike_86 rfl (lv_at hl 0 rfl) ?_
      refine ze_gtR X 7 30 81 (RX7, TX7, 39) rfl hf hW hK0 rfl (by decide) kfl_X7_81 dX7_isLike_87 (fun o18 hg => ?_)
      replace hf := hg
      refine lv_iload_n X.1 X.2.1 dX7_isLike_90 rfl (lv_at hl 3 rfl) ?_
      obtain ⟨a19, rfl, k21, hg⟩ := zh_dr hf
      replace hf := hg
      refine ze_iald X hf hW k21 dX7_isLike_91 (fun v22 hg => ?_)
      replace hf := hg
      refine lv_aload_n X.1 X.2.1 dX7_isLike_92 rfl (lv_at hl 0 rfl) ?_
      refine ze_gtR X 7 31 84 (RX7, TX7, 39) rfl hf hW hK0 rfl (by decide) kfl_X7_84 dX7_isLike_93 (fun o23 hg => ?_)
      replace hf := hg
      refine lv_iload_n X.1 X.2.1 dX7_isLike_96 rfl (lv_at hl 2 rfl) ?_
      obtain ⟨a24, rfl, k26, hg⟩ := zh_dr hf
      replace hf := hg
      refine ze_iald X hf hW k26 dX7_isLike_97 (fun v27 hg => ?_)
      replace hf := hg
      obtain ⟨v28, h29, hg⟩ := zh_bd hf
      replace hf := hg
      refine ze_aftI0 (ze_runV (As := [.int x1, .int v17, .int x1, .int v22, .int v27]) (rest := []) X 7 217 (c_X7_isSame l D B n hK0 h29) vX7_isSame kml_X7_217 hW hK0 rfl rfl ⟨by decide, by decide⟩ rfl hl.1 rfl (Nat.le_of_ble_eq_true rfl) ⟨Nat.le_refl _, Nat.le_refl _⟩ dX7_isLike_98) hW (fun H locs hV => ?_)
      replace hW := hV
      refine lv_if_eq (tgt := 108) X.1 X.2.1 dX7_isLike_101 (by decide) (fun c30 => ?_) (fun c30 => ?_)
      · replace hf := zif_pos c30 hf
        refine lv_iconst (v := 0) X.1 X.2.1 dX7_isLike_108 (by decide) ?_
        obtain rfl := zi1 hf
        exact ze_retZ X hr hlk (by decide) hW (Nat.le_refl _) (Nat.le_refl _) dX7_isLike_109
      · replace hf := zif_neg c30 hf
        refine lv_iconst (v := 1) X.1 X.2.1 dX7_isLike_104 (by decide) ?_
        refine lv_goto (tgt := 109) X.1 X.2.1 dX7_isLike_105 (by decide) ?_
        obtain rfl := zi1 hf
        exact ze_retZ X hr hlk (by decide) hW (Nat.le_refl _) (Nat.le_refl _) dX7_isLike_109
  · replace hf := zif_pos c1 hf
    refine lv_aload_n X.1 X.2.1 dX7_isLike_6 rfl (lv_at hl 0 rfl) ?_
    refine lv_iload_n X.1 X.2.1 dX7_isLike_7 rfl (lv_at hl 1 rfl) ?_
    refine lv_aload_n X.1 X.2.1 dX7_isLike_8 rfl (lv_at hl 0 rfl) ?_
    refine ze_gtR X 7 30 81 (RX7, TX7, 39) rfl hf hW hK0 rfl (by decide) kfl_X7_81 dX7_isLike_9 (fun o31 hg => ?_)
    replace hf := hg
    refine lv_iload_n X.1 X.2.1 dX7_isLike_12 rfl (lv_at hl 2 rfl) ?_
    obtain ⟨a32, rfl, k34, hg⟩ := zh_dr hf
    replace hf := hg
    refine ze_iald X hf hW k34 dX7_isLike_13 (fun v35 hg => ?_)
    replace hf := hg
    obtain ⟨v36, h37, hg⟩ := zh_bd hf
    replace hf := hg
    refine ze_aftI0 (ze_runV (As := [.int x1, .int v35]) (rest := []) X 7 119 (c_X7_sort l D B n hK0 h37) vX7_sort kml_X7_119 hW hK0 rfl rfl ⟨by decide, by decide⟩ rfl hl.1 rfl (Nat.le_of_ble_eq_true rfl) ⟨Nat.le_refl _, Nat.le_refl _⟩ dX7_isLike_14) hW (fun H locs hV => ?_)
    replace hW := hV
    refine lv_aload_n X.1 X.2.1 dX7_isLike_17 rfl (lv_at hl 0 rfl) ?_
    refine lv_iload_n X.1 X.2.1 dX7_isLike_18 rfl (lv_at hl 1 rfl) ?_
    refine lv_aload_n X.1 X.2.1 dX7_isLike_19 rfl (lv_at hl 0 rfl) ?_
    refine ze_gtR X 7 30 81 (RX7, TX7, 39) rfl hf hW hK0 rfl (by decide) kfl_X7_81 dX7_isLike_20 (fun o38 hg => ?_)
    replace hf := hg
    refine lv_iload_n X.1 X.2.1 dX7_isLike_23 rfl (lv_at hl 3 rfl) ?_
    obtain ⟨a39, rfl, k41, hg⟩ := zh_dr hf
    replace hf := hg
    refine ze_iald X hf hW k41 dX7_isLike_24 (fun v42 hg => ?_)
    replace hf := hg
    obtain ⟨v43, h44, hg⟩ := zh_bd hf
    replace hf := hg
    refine ze_aftI0 (ze_runV (As := [.int x1, .int v42]) (rest := [.int v36]) X 7 119 (c_X7_sort l D B n hK0 h44) vX7_sort kml_X7_119 hW hK0 rfl rfl ⟨by decide, by decide⟩ rfl hl.1 rfl (Nat.le_of_ble_eq_true rfl) ⟨Nat.le_refl _, Nat.le_refl _⟩ dX7_isLike_25) hW (fun H locs hV => ?_)
    replace hW := hV
    refine lv_icmp_ne (tgt := 60) X.1 X.2.1 dX7_isLike_28 (by decide) (fun c45 => ?_) (fun c45 => ?_)
    · replace hf := zif_neg c45 hf
      refine lv_iconst (v := 0) X.1 X.2.1 dX7_isLike_60 (by decide) ?_
      obtain rfl := zi1 hf
      exact ze_retZ X hr hlk (by decide) hW (Nat.le_refl _) (Nat.le_refl _) dX7_isLike_61
    · replace hf := zif_pos c45 hf
      refine lv_aload_n X.1 X.2.1 dX7_isLike_31 rfl (lv_at hl 0 rfl) ?_
      refine lv_iload_n X.1 X.2.1 dX7_isLike_32 rfl (lv_at hl 1 rfl) ?_
      refine lv_aload_n X.1 X.2.1 dX7_isLike_33 rfl (lv_at hl 0 rfl) ?_
      refine ze_gtR X 7 30 81 (RX7, TX7, 39) rfl hf hW hK0 rfl (by decide) kfl_X7_81 dX7_isLike_34 (fun o46 hg => ?_)
      replace hf := hg
      refine lv_iload_n X.1 X.2.1 dX7_isLike_37 rfl (lv_at hl 2 rfl) ?_
      obtain ⟨a47, rfl, k49, hg⟩ := zh_dr hf
      replace hf := hg
      refine ze_iald X hf hW k49 dX7_isLike_38 (fun v50 hg => ?_)
      replace hf := hg
      obtain ⟨v51, h52, hg⟩ := zh_bd hf
      replace hf := hg
      refine ze_aftI0 (ze_runV (As := [.int x1, .int v50]) (rest := []) X 7 159 (c_X7_number l D B n hK0 h52) vX7_number kml_X7_159 hW hK0 rfl rfl ⟨by decide, by decide⟩ rfl hl.1 rfl (Nat.le_of_ble_eq_true rfl) ⟨Nat.le_refl _, Nat.le_refl _⟩ dX7_isLike_39) hW (fun H locs hV => ?_)
      replace hW := hV
      refine lv_aload_n X.1 X.2.1 dX7_isLike_42 rfl (lv_at hl 0 rfl) ?_
      refine lv_iload_n X.1 X.2.1 dX7_isLike_43 rfl (lv_at hl 1 rfl) ?_
      refine lv_aload_n X.1 X.2.1 dX7_isLike_44 rfl (lv_at hl 0 rfl) ?_
      refine ze_gtR X 7 30 81 (RX7, TX7, 39) rfl hf hW hK0 rfl (by decide) kfl_X7_81 dX7_isLike_45 (fun o53 hg => ?_)
      replace hf := hg
      refine lv_iload_n X.1 X.2.1 dX7_isLike_48 rfl (lv_at hl 3 rfl) ?_
      obtain ⟨a54, rfl, k56, hg⟩ := zh_dr hf
      replace hf := hg
      refine ze_iald X hf hW k56 dX7_isLike_49 (fun v57 hg => ?_)
      replace hf := hg
      obtain ⟨v58, h59, hg⟩ := zh_bd hf
      replace hf := hg
      refine ze_aftI0 (ze_runV (As := [.int x1, .int v57]) (rest := [.int v51]) X 7 159 (c_X7_number l D B n hK0 h59) vX7_number kml_X7_159 hW hK0 rfl rfl ⟨by decide, by decide⟩ rfl hl.1 rfl (Nat.le_of_ble_eq_true rfl) ⟨Nat.le_refl _, Nat.le_refl _⟩ dX7_isLike_50) hW (fun H locs hV => ?_)
      replace hW := hV
      refine lv_icmp_ne (tgt := 60) X.1 X.2.1 dX7_isLike_53 (by decide) (fun c60 => ?_) (fun c60 => ?_)
      · replace hf := zif_neg c60 hf
        refine lv_iconst (v := 0) X.1 X.2.1 dX7_isLike_60 (by decide) ?_
        obtain rfl := zi1 hf
        exact ze_retZ X hr hlk (by decide) hW (Nat.le_refl _) (Nat.le_refl _) dX7_isLike_61
      · replace hf := zif_pos c60 hf
        refine lv_iconst (v := 1) X.1 X.2.1 dX7_isLike_56 (by decide) ?_
        refine lv_goto (tgt := 61) X.1 X.2.1 dX7_isLike_57 (by decide) ?_
        obtain rfl := zi1 hf
        exact ze_retZ X hr hlk (by decide) hW (Nat.le_refl _) (Nat.le_refl _) dX7_isLike_61
end

/-! LeastPatternsModel.lastSort(II)I -/
def g_X7_lastSort_10 (F : Nat) (K : zK) (I : zI) (R : zR) (a0 : Nat)  (kself : Int32 → Int32 → Int32 → Int32 → Option (Int32)) (x1 : Int32) (x2 : Int32) (x3 : Int32) (x4 : Int32) : Option (Int32) :=
  zbd (some (R a0 30)) fun o1 =>
  zbd (zdr K o1 1) fun a2 =>
  zbd (zrd K I a2 x2) fun v5 =>
  zbd (some (R a0 31)) fun o6 =>
  zbd (zdr K o6 1) fun a7 =>
  zbd (zrd K I a7 x2) fun v10 =>
  if (v5 + v10) ≤ x3 then
    zbd (f_X7_sort F K I R a0 x1 x4) fun v12 =>
    some v12
  else
    zbd (some (R a0 6)) fun o14 =>
    zbd (zdr K o14 1) fun a15 =>
    zbd (zrd K I a15 x3) fun v18 =>
    zbd (some (x3 + v18)) fun v19 =>
    kself x1 x2 v19 x3
def f_X7_lastSort_10 (F : Nat) (K : zK) (I : zI) (R : zR) (a0 : Nat)  : Nat → Int32 → Int32 → Int32 → Int32 → Option (Int32)
  | 0, _, _, _, _ => none
  | t + 1, x1, x2, x3, x4 => g_X7_lastSort_10 F K I R a0  (f_X7_lastSort_10 F K I R a0  t) x1 x2 x3 x4
def f_X7_lastSort (F : Nat) (K : zK) (I : zI) (R : zR) (a0 : Nat) (x1 : Int32) (x2 : Int32) : Option (Int32) :=
  zbd (some (R a0 30)) fun o20 =>
  zbd (zdr K o20 1) fun a21 =>
  zbd (zrd K I a21 x2) fun v24 =>
  f_X7_lastSort_10 F K I R a0 F x1 x2 v24 v24
section
variable {p : Program} {l : Launch} {e : Env} {s : State} {m : MethodId} {args : Array Value} {below : List Frame} {meth : Method} {c : Code} {D : zD} {B n n0 n' fd ld : Nat} {K K0 K' : zK} {I I' : zI} {R R' : zR} {H : Heap} {locs : List Loc} {ls : Array Slot} {r : Int32}
set_option maxRecDepth 100000 in
set_option maxHeartbeats 4000000 in
theorem wg_X7_lastSort_10 {F : Nat} {a0 : Nat}  (X : zX p s m c cX7_lastSort 5 RX7 D) (hr : meth.sig.returnType = some .int) (hlk : meth.locks = false) (hK0 : (K a0).1 = 17)  {kself : Int32 → Int32 → Int32 → Int32 → Option (Int32)} (hkself : ∀ (x1 : Int32) (x2 : Int32) (x3 : Int32) (x4 : Int32) (H : Heap) (locs : List Loc) (ls : Array Slot), kself x1 x2 x3 x4 = some r → zS (zOwn B K (B + n)) D B n K I R s.heap H locs → lv_has ls 5 [(0, .ref (B + a0)), (1, .int x1), (2, .int x2), (3, .int x3), (4, .int x4)] → W p l e ({ frames := 2, cells := 0, slots := 0, locals := 62 } : Room) s m args below meth c H locs 0 0 (MQ below (zQi D (zOwn B K (B + n)) r B n K I R) args s 0 0 (zOwn B K (B + n))) (F0 m 10 ls [])) {x1 : Int32} {x2 : Int32} {x3 : Int32} {x4 : Int32} (hf : g_X7_lastSort_10 F K I R a0  kself x1 x2 x3 x4 = some r) (hW : zS (zOwn B K (B + n)) D B n K I R s.heap H locs) (hl : lv_has ls 5 [(0, .ref (B + a0)), (1, .int x1), (2, .int x2), (3, .int x3), (4, .int x4)]) : W p l e ({ frames := 2, cells := 0, slots := 0, locals := 62 } : Room) s m args below meth c H locs 0 0 (MQ below (zQi D (zOwn B K (B + n)) r B n K I R) args s 0 0 (zOwn B K (B + n))) (F0 m 10 ls []) := by
  unfold g_X7_lastSort_10 at hf
  refine lv_iload_n X.1 X.2.1 dX7_lastSort_10 rfl (lv_at hl 3 rfl) ?_
  refine lv_aload_n X.1 X.2.1 dX7_lastSort_11 rfl (lv_at hl 0 rfl) ?_
  refine ze_gtR X 7 30 81 (RX7, TX7, 39) rfl hf hW hK0 rfl (by decide) kfl_X7_81 dX7_lastSort_12 (fun o1 hg => ?_)
  replace hf := hg
  refine lv_iload_n X.1 X.2.1 dX7_lastSort_15 rfl (lv_at hl 2 rfl) ?_
  obtain ⟨a2, rfl, k4, hg⟩ := zh_dr hf
  replace hf := hg
  refine ze_iald X hf hW k4 dX7_lastSort_16 (fun v5 hg => ?_)
  replace hf := hg
  refine lv_aload_n X.1 X.2.1 dX7_lastSort_17 rfl (lv_at hl 0 rfl) ?_
  refine ze_gtR X 7 31 84 (RX7, TX7, 39) rfl hf hW hK0 rfl (by decide) kfl_X7_84 dX7_lastSort_18 (fun o6 hg => ?_)
  replace hf := hg
  refine lv_iload_n X.1 X.2.1 dX7_lastSort_21 rfl (lv_at hl 2 rfl) ?_
  obtain ⟨a7, rfl, k9, hg⟩ := zh_dr hf
  replace hf := hg
  refine ze_iald X hf hW k9 dX7_lastSort_22 (fun v10 hg => ?_)
  replace hf := hg
  refine lv_iadd X.1 X.2.1 dX7_lastSort_23 ?_
  refine lv_icmp_ge (tgt := 42) X.1 X.2.1 dX7_lastSort_24 (by decide) (fun c11 => ?_) (fun c11 => ?_)
  · replace hf := zif_pos c11 hf
    refine lv_aload_n X.1 X.2.1 dX7_lastSort_42 rfl (lv_at hl 0 rfl) ?_
    refine lv_iload_n X.1 X.2.1 dX7_lastSort_43 rfl (lv_at hl 1 rfl) ?_
    refine lv_iload X.1 X.2.1 dX7_lastSort_44 (lv_at hl 4 rfl) ?_
    obtain ⟨v12, h13, hg⟩ := zh_bd hf
    replace hf := hg
    refine ze_aftI0 (ze_runV (As := [.int x1, .int x4]) (rest := []) X 7 119 (c_X7_sort l D B n hK0 h13) vX7_sort kml_X7_119 hW hK0 rfl rfl ⟨by decide, by decide⟩ rfl hl.1 rfl (Nat.le_of_ble_eq_true rfl) ⟨Nat.le_refl _, Nat.le_refl _⟩ dX7_lastSort_46) hW (fun H locs hV => ?_)
    replace hW := hV
    obtain rfl := zi1 hf
    exact ze_retI X hr hlk hW (Nat.le_refl _) (Nat.le_refl _) dX7_lastSort_49
  · replace hf := zif_neg c11 hf
    refine lv_iload_n X.1 X.2.1 dX7_lastSort_27 rfl (lv_at hl 3 rfl) ?_
    refine lv_istore (lv' := [(4, .int x3), (0, .ref (B + a0)), (1, .int x1), (2, .int x2), (3, .int x3)]) X.1 X.2.1 dX7_lastSort_28 hl (by decide) rfl (fun ls hk => ?_)
    replace hl := hk
    refine lv_iload_n X.1 X.2.1 dX7_lastSort_30 rfl (lv_at hl 4 rfl) ?_
    refine lv_aload_n X.1 X.2.1 dX7_lastSort_31 rfl (lv_at hl 1 rfl) ?_
    refine ze_gtR X 7 6 23 (RX7, TX7, 39) rfl hf hW hK0 rfl (by decide) kfl_X7_23 dX7_lastSort_32 (fun o14 hg => ?_)
    replace hf := hg
    refine lv_iload_n X.1 X.2.1 dX7_lastSort_35 rfl (lv_at hl 4 rfl) ?_
    obtain ⟨a15, rfl, k17, hg⟩ := zh_dr hf
    replace hf := hg
    refine ze_iald X hf hW k17 dX7_lastSort_36 (fun v18 hg => ?_)
    replace hf := hg
    refine lv_iadd X.1 X.2.1 dX7_lastSort_37 ?_
    refine ze_nm hf (fun v19 hg => ?_)
    replace hf := hg
    refine lv_istore_n (i := 3) (lv' := [(3, .int v19), (4, .int x3), (0, .ref (B + a0)), (1, .int x1), (2, .int x2)]) X.1 X.2.1 dX7_lastSort_38 rfl hl (by decide) rfl (fun ls hk => ?_)
    replace hl := hk
    refine lv_goto (tgt := 10) X.1 X.2.1 dX7_lastSort_39 (by decide) ?_
    exact hkself _ _ _ _ _ _ _ hf hW (lv_sub hl [2, 3, 4, 0, 1] rfl)
set_option maxRecDepth 100000 in
set_option maxHeartbeats 4000000 in
theorem w_X7_lastSort_10 {F : Nat} {a0 : Nat}  (X : zX p s m c cX7_lastSort 5 RX7 D) (hr : meth.sig.returnType = some .int) (hlk : meth.locks = false) (hK0 : (K a0).1 = 17)  {t : Nat} {x1 : Int32} {x2 : Int32} {x3 : Int32} {x4 : Int32} (hf : f_X7_lastSort_10 F K I R a0  t x1 x2 x3 x4 = some r) (hW : zS (zOwn B K (B + n)) D B n K I R s.heap H locs) (hl : lv_has ls 5 [(0, .ref (B + a0)), (1, .int x1), (2, .int x2), (3, .int x3), (4, .int x4)]) : W p l e ({ frames := 2, cells := 0, slots := 0, locals := 62 } : Room) s m args below meth c H locs 0 0 (MQ below (zQi D (zOwn B K (B + n)) r B n K I R) args s 0 0 (zOwn B K (B + n))) (F0 m 10 ls []) := by
  have key : ∀ t : Nat, ∀ (x1 : Int32) (x2 : Int32) (x3 : Int32) (x4 : Int32) (H : Heap) (locs : List Loc) (ls : Array Slot), f_X7_lastSort_10 F K I R a0  t x1 x2 x3 x4 = some r → zS (zOwn B K (B + n)) D B n K I R s.heap H locs → lv_has ls 5 [(0, .ref (B + a0)), (1, .int x1), (2, .int x2), (3, .int x3), (4, .int x4)] → W p l e ({ frames := 2, cells := 0, slots := 0, locals := 62 } : Room) s m args below meth c H locs 0 0 (MQ below (zQi D (zOwn B K (B + n)) r B n K I R) args s 0 0 (zOwn B K (B + n))) (F0 m 10 ls []) := by
    intro t
    induction t with
    | zero =>
      intro x1 x2 x3 x4 H locs ls hf hW hl
      cases hf
    | succ t ih =>
      intro x1 x2 x3 x4 H locs ls hf hW hl
      exact wg_X7_lastSort_10 X hr hlk hK0  ih hf hW hl
  exact key t _ _ _ _ _ _ _ hf hW hl
set_option maxRecDepth 100000 in
set_option maxHeartbeats 4000000 in
theorem c_X7_lastSort (l : Launch) (D : zD) (B n : Nat) {F : Nat} {K : zK} {I : zI} {R : zR} {a0 : Nat} {x1 : Int32} {x2 : Int32} {r : Int32} (hK0 : (K a0).1 = 17) (hf : f_X7_lastSort F K I R a0 x1 x2 = some r) : zM l yX7_lastSort cX7_lastSort 5 (some .int) ({ frames := 2, cells := 0, slots := 0, locals := 62 } : Room) D B n K I R [.ref (B + a0), .int x1, .int x2] (zQi D (zOwn B K (B + n)) r B n K I R) := by
  refine ze_entry (lv0 := [(0, .ref (B + a0)), (1, .int x1), (2, .int x2)]) (by decide) (by simp [lg_sl, zcat, zcat_i, zcat_r, zcat_l]) (by simp [lv_args, zcat, zcat_i, zcat_r, zcat_l]) (fun p e s m below meth c X hr hlk hin hW ls hl => ?_)
  unfold f_X7_lastSort at hf
  refine lv_aload_n X.1 X.2.1 dX7_lastSort_0 rfl (lv_at hl 0 rfl) ?_
  refine ze_gtR X 7 30 81 (RX7, TX7, 39) rfl hf hW hK0 rfl (by decide) kfl_X7_81 dX7_lastSort_1 (fun o20 hg => ?_)
  replace hf := hg
  refine lv_iload_n X.1 X.2.1 dX7_lastSort_4 rfl (lv_at hl 2 rfl) ?_
  obtain ⟨a21, rfl, k23, hg⟩ := zh_dr hf
  replace hf := hg
  refine ze_iald X hf hW k23 dX7_lastSort_5 (fun v24 hg => ?_)
  replace hf := hg
  refine lv_istore_n (i := 3) (lv' := [(3, .int v24), (0, .ref (B + a0)), (1, .int x1), (2, .int x2)]) X.1 X.2.1 dX7_lastSort_6 rfl hl (by decide) rfl (fun ls hk => ?_)
  replace hl := hk
  refine lv_iload_n X.1 X.2.1 dX7_lastSort_7 rfl (lv_at hl 0 rfl) ?_
  refine lv_istore (lv' := [(4, .int v24), (3, .int v24), (0, .ref (B + a0)), (1, .int x1), (2, .int x2)]) X.1 X.2.1 dX7_lastSort_8 hl (by decide) rfl (fun ls hk => ?_)
  replace hl := hk
  exact w_X7_lastSort_10 X hr hlk hK0 hf hW (lv_sub hl [2, 3, 4, 1, 0] rfl)
end
