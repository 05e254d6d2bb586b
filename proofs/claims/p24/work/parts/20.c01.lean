/-! LeastPatterns$Term.numberOf(I)I -/
def f_X5_numberOf (F : Nat) (K : zK) (I : zI) (R : zR) (a0 : Nat) (x1 : Int32) : Option (Int32) :=
  if x1 < (0 : Int32) then
    some (0 : Int32)
  else
    if (I a0 3) ≤ x1 then
      some (0 : Int32)
    else
      zbd (some (R a0 0)) fun o3 =>
      zbd (zdr K o3 1) fun a4 =>
      zbd (zrd K I a4 x1) fun v7 =>
      some ((v7 >>> ((4 : Int32) &&& 31)) &&& (15 : Int32))
section
variable {p : Program} {l : Launch} {e : Env} {s : State} {m : MethodId} {args : Array Value} {below : List Frame} {meth : Method} {c : Code} {D : zD} {B n n0 n' fd ld : Nat} {K K0 K' : zK} {I I' : zI} {R R' : zR} {H : Heap} {locs : List Loc} {ls : Array Slot} {r : Int32}
set_option maxRecDepth 100000 in
set_option maxHeartbeats 4000000 in
theorem c_X5_numberOf (l : Launch) (D : zD) (B n : Nat) {F : Nat} {K : zK} {I : zI} {R : zR} {a0 : Nat} {x1 : Int32} {r : Int32} (hK0 : (K a0).1 = 15) (hf : f_X5_numberOf F K I R a0 x1 = some r) : zM l yX5_numberOf cX5_numberOf 2 (some .int) ({ frames := 1, cells := 0, slots := 0, locals := 40 } : Room) D B n K I R [.ref (B + a0), .int x1] (zQi D (zOwn B K (B + n)) r B n K I R) := by
  refine ze_entry (lv0 := [(0, .ref (B + a0)), (1, .int x1)]) (by decide) (by simp [lg_sl, zcat, zcat_i, zcat_r, zcat_l]) (by simp [lv_args, zcat, zcat_i, zcat_r, zcat_l]) (fun p e s m below meth c X hr hlk hin hW ls hl => ?_)
  unfold f_X5_numberOf at hf
  refine lv_iload_n X.1 X.2.1 dX5_numberOf_0 rfl (lv_at hl 1 rfl) ?_
  refine lv_if_lt (tgt := 26) X.1 X.2.1 dX5_numberOf_1 (by decide) (fun c1 => ?_) (fun c1 => ?_)
  · replace hf := zif_pos c1 hf
    refine lv_iconst (v := 0) X.1 X.2.1 dX5_numberOf_26 (by decide) ?_
    obtain rfl := zi1 hf
    exact ze_retI X hr hlk hW (Nat.le_refl _) (Nat.le_refl _) dX5_numberOf_27
  · replace hf := zif_neg c1 hf
    refine lv_iload_n X.1 X.2.1 dX5_numberOf_4 rfl (lv_at hl 1 rfl) ?_
    refine lv_aload_n X.1 X.2.1 dX5_numberOf_5 rfl (lv_at hl 0 rfl) ?_
    refine ze_getI X 5 3 21 (RX5, TX5, 4) rfl hW hK0 rfl (by decide) kfl_X5_21 dX5_numberOf_6 ?_
    refine lv_icmp_ge (tgt := 26) X.1 X.2.1 dX5_numberOf_9 (by decide) (fun c2 => ?_) (fun c2 => ?_)
    · replace hf := zif_pos c2 hf
      refine lv_iconst (v := 0) X.1 X.2.1 dX5_numberOf_26 (by decide) ?_
      obtain rfl := zi1 hf
      exact ze_retI X hr hlk hW (Nat.le_refl _) (Nat.le_refl _) dX5_numberOf_27
    · replace hf := zif_neg c2 hf
      refine lv_aload_n X.1 X.2.1 dX5_numberOf_12 rfl (lv_at hl 0 rfl) ?_
      refine ze_gtR X 5 0 9 (RX5, TX5, 4) rfl hf hW hK0 rfl (by decide) kfl_X5_9 dX5_numberOf_13 (fun o3 hg => ?_)
      replace hf := hg
      refine lv_iload_n X.1 X.2.1 dX5_numberOf_16 rfl (lv_at hl 1 rfl) ?_
      obtain ⟨a4, rfl, k6, hg⟩ := zh_dr hf
      replace hf := hg
      refine ze_iald X hf hW k6 dX5_numberOf_17 (fun v7 hg => ?_)
      replace hf := hg
      refine lv_iconst (v := 4) X.1 X.2.1 dX5_numberOf_18 (by decide) ?_
      refine lv_ishr X.1 X.2.1 dX5_numberOf_19 ?_
      refine lv_bipush (v := 15) X.1 X.2.1 dX5_numberOf_20 (by decide) ?_
      refine lv_iand X.1 X.2.1 dX5_numberOf_22 ?_
      refine lv_goto (tgt := 27) X.1 X.2.1 dX5_numberOf_23 (by decide) ?_
      obtain rfl := zi1 hf
      exact ze_retI X hr hlk hW (Nat.le_refl _) (Nat.le_refl _) dX5_numberOf_27
end

/-! LeastPatterns$Term.sequencePlace(I)I -/
def g_X5_sequencePlace_13 (F : Nat) (K : zK) (I : zI) (R : zR) (a0 : Nat)  (kself : Int32 → Int32 → Int32 → Option (Int32)) (x2 : Int32) (x3 : Int32) (x4 : Int32) : Option (Int32) :=
  if x3 ≤ x4 then
    some (-1 : Int32)
  else
    zbd (f_X5_sortOf F K I R a0 x2) fun v2 =>
    if v2 = (3 : Int32) then
      some x4
    else
      zbd (f_X5_spanOf F K I R a0 x2) fun v5 =>
      zbd (some (x2 + v5)) fun v7 =>
      kself v7 x3 (x4 + (1 : Int32))
def f_X5_sequencePlace_13 (F : Nat) (K : zK) (I : zI) (R : zR) (a0 : Nat)  : Nat → Int32 → Int32 → Int32 → Option (Int32)
  | 0, _, _, _ => none
  | t + 1, x2, x3, x4 => g_X5_sequencePlace_13 F K I R a0  (f_X5_sequencePlace_13 F K I R a0  t) x2 x3 x4
def f_X5_sequencePlace (F : Nat) (K : zK) (I : zI) (R : zR) (a0 : Nat) (x1 : Int32) : Option (Int32) :=
  zbd (some (x1 + (1 : Int32))) fun v8 =>
  zbd (f_X5_argumentsOf F K I R a0 x1) fun v9 =>
  f_X5_sequencePlace_13 F K I R a0 F v8 v9 (0 : Int32)
section
variable {p : Program} {l : Launch} {e : Env} {s : State} {m : MethodId} {args : Array Value} {below : List Frame} {meth : Method} {c : Code} {D : zD} {B n n0 n' fd ld : Nat} {K K0 K' : zK} {I I' : zI} {R R' : zR} {H : Heap} {locs : List Loc} {ls : Array Slot} {r : Int32}
set_option maxRecDepth 100000 in
set_option maxHeartbeats 4000000 in
theorem wg_X5_sequencePlace_13 {F : Nat} {a0 : Nat}  (X : zX p s m c cX5_sequencePlace 5 RX5 D) (hr : meth.sig.returnType = some .int) (hlk : meth.locks = false) (hK0 : (K a0).1 = 15)  {kself : Int32 → Int32 → Int32 → Option (Int32)} (hkself : ∀ (x2 : Int32) (x3 : Int32) (x4 : Int32) (H : Heap) (locs : List Loc) (ls : Array Slot), kself x2 x3 x4 = some r → zS (zOwn B K (B + n)) D B n K I R s.heap H locs → lv_has ls 5 [(0, .ref (B + a0)), (2, .int x2), (3, .int x3), (4, .int x4)] → W p l e ({ frames := 2, cells := 0, slots := 0, locals := 61 } : Room) s m args below meth c H locs 0 0 (MQ below (zQi D (zOwn B K (B + n)) r B n K I R) args s 0 0 (zOwn B K (B + n))) (F0 m 13 ls [])) {x2 : Int32} {x3 : Int32} {x4 : Int32} (hf : g_X5_sequencePlace_13 F K I R a0  kself x2 x3 x4 = some r) (hW : zS (zOwn B K (B + n)) D B n K I R s.heap H locs) (hl : lv_has ls 5 [(0, .ref (B + a0)), (2, .int x2), (3, .int x3), (4, .int x4)]) : W p l e ({ frames := 2, cells := 0, slots := 0, locals := 61 } : Room) s m args below meth c H locs 0 0 (MQ below (zQi D (zOwn B K (B + n)) r B n K I R) args s 0 0 (zOwn B K (B + n))) (F0 m 13 ls []) := by
  unfold g_X5_sequencePlace_13 at hf
  refine lv_iload X.1 X.2.1 dX5_sequencePlace_13 (lv_at hl 3 rfl) ?_
  refine lv_iload_n X.1 X.2.1 dX5_sequencePlace_15 rfl (lv_at hl 2 rfl) ?_
  refine lv_icmp_ge (tgt := 45) X.1 X.2.1 dX5_sequencePlace_16 (by decide) (fun c1 => ?_) (fun c1 => ?_)
  · replace hf := zif_pos c1 hf
    refine lv_iconst (v := -1) X.1 X.2.1 dX5_sequencePlace_45 (by decide) ?_
    obtain rfl := zi1 hf
    exact ze_retI X hr hlk hW (Nat.le_refl _) (Nat.le_refl _) dX5_sequencePlace_46
  · replace hf := zif_neg c1 hf
    refine lv_aload_n X.1 X.2.1 dX5_sequencePlace_19 rfl (lv_at hl 0 rfl) ?_
    refine lv_iload_n X.1 X.2.1 dX5_sequencePlace_20 rfl (lv_at hl 1 rfl) ?_
    obtain ⟨v2, h3, hg⟩ := zh_bd hf
    replace hf := hg
    refine ze_aftI0 (ze_runV (As := [.int x2]) (rest := []) X 5 45 (c_X5_sortOf l D B n hK0 h3) vX5_sortOf kml_X5_45 hW hK0 rfl rfl ⟨by decide, by decide⟩ rfl hl.1 rfl (Nat.le_of_ble_eq_true rfl) ⟨Nat.le_refl _, Nat.le_refl _⟩ dX5_sequencePlace_21) hW (fun H locs hV => ?_)
    replace hW := hV
    refine lv_iconst (v := 3) X.1 X.2.1 dX5_sequencePlace_24 (by decide) ?_
    refine lv_icmp_ne (tgt := 31) X.1 X.2.1 dX5_sequencePlace_25 (by decide) (fun c4 => ?_) (fun c4 => ?_)
    · replace hf := zif_neg c4 hf
      refine lv_iload_n X.1 X.2.1 dX5_sequencePlace_31 rfl (lv_at hl 1 rfl) ?_
      refine lv_aload_n X.1 X.2.1 dX5_sequencePlace_32 rfl (lv_at hl 0 rfl) ?_
      refine lv_iload_n X.1 X.2.1 dX5_sequencePlace_33 rfl (lv_at hl 1 rfl) ?_
      obtain ⟨v5, h6, hg⟩ := zh_bd hf
      replace hf := hg
      refine ze_aftI0 (ze_runV (As := [.int x2]) (rest := [.int x2]) X 5 39 (c_X5_spanOf l D B n hK0 h6) vX5_spanOf kml_X5_39 hW hK0 rfl rfl ⟨by decide, by decide⟩ rfl hl.1 rfl (Nat.le_of_ble_eq_true rfl) ⟨Nat.le_refl _, Nat.le_refl _⟩ dX5_sequencePlace_34) hW (fun H locs hV => ?_)
      replace hW := hV
      refine lv_iadd X.1 X.2.1 dX5_sequencePlace_37 ?_
      refine ze_nm hf (fun v7 hg => ?_)
      replace hf := hg
      refine lv_istore_n (i := 2) (lv' := [(2, .int v7), (0, .ref (B + a0)), (3, .int x3), (4, .int x4)]) X.1 X.2.1 dX5_sequencePlace_38 rfl hl (by decide) rfl (fun ls hk => ?_)
      replace hl := hk
      refine ze_iinc (lv' := [(4, .int (x4 + (1 : Int32))), (2, .int v7), (0, .ref (B + a0)), (3, .int x3)]) (d := 1) X.1 X.2.1 dX5_sequencePlace_39 hl (k := 3) rfl (by decide) (by decide) rfl (fun ls hk => ?_)
      replace hl := hk
      refine lv_goto (tgt := 13) X.1 X.2.1 dX5_sequencePlace_42 (by decide) ?_
      exact hkself _ _ _ _ _ _ hf hW (lv_sub hl [2, 1, 3, 0] rfl)
    · replace hf := zif_pos c4 hf
      refine lv_iload X.1 X.2.1 dX5_sequencePlace_28 (lv_at hl 3 rfl) ?_
      obtain rfl := zi1 hf
      exact ze_retI X hr hlk hW (Nat.le_refl _) (Nat.le_refl _) dX5_sequencePlace_30
set_option maxRecDepth 100000 in
set_option maxHeartbeats 4000000 in
theorem w_X5_sequencePlace_13 {F : Nat} {a0 : Nat}  (X : zX p s m c cX5_sequencePlace 5 RX5 D) (hr : meth.sig.returnType = some .int) (hlk : meth.locks = false) (hK0 : (K a0).1 = 15)  {t : Nat} {x2 : Int32} {x3 : Int32} {x4 : Int32} (hf : f_X5_sequencePlace_13 F K I R a0  t x2 x3 x4 = some r) (hW : zS (zOwn B K (B + n)) D B n K I R s.heap H locs) (hl : lv_has ls 5 [(0, .ref (B + a0)), (2, .int x2), (3, .int x3), (4, .int x4)]) : W p l e ({ frames := 2, cells := 0, slots := 0, locals := 61 } : Room) s m args below meth c H locs 0 0 (MQ below (zQi D (zOwn B K (B + n)) r B n K I R) args s 0 0 (zOwn B K (B + n))) (F0 m 13 ls []) := by
  have key : ∀ t : Nat, ∀ (x2 : Int32) (x3 : Int32) (x4 : Int32) (H : Heap) (locs : List Loc) (ls : Array Slot), f_X5_sequencePlace_13 F K I R a0  t x2 x3 x4 = some r → zS (zOwn B K (B + n)) D B n K I R s.heap H locs → lv_has ls 5 [(0, .ref (B + a0)), (2, .int x2), (3, .int x3), (4, .int x4)] → W p l e ({ frames := 2, cells := 0, slots := 0, locals := 61 } : Room) s m args below meth c H locs 0 0 (MQ below (zQi D (zOwn B K (B + n)) r B n K I R) args s 0 0 (zOwn B K (B + n))) (F0 m 13 ls []) := by
    intro t
    induction t with
    | zero =>
      intro x2 x3 x4 H locs ls hf hW hl
      cases hf
    | succ t ih =>
      intro x2 x3 x4 H locs ls hf hW hl
      exact wg_X5_sequencePlace_13 X hr hlk hK0  ih hf hW hl
  exact key t _ _ _ _ _ _ hf hW hl
set_option maxRecDepth 100000 in
set_option maxHeartbeats 4000000 in
theorem c_X5_sequencePlace (l : Launch) (D : zD) (B n : Nat) {F : Nat} {K : zK} {I : zI} {R : zR} {a0 : Nat} {x1 : Int32} {r : Int32} (hK0 : (K a0).1 = 15) (hf : f_X5_sequencePlace F K I R a0 x1 = some r) : zM l yX5_sequencePlace cX5_sequencePlace 5 (some .int) ({ frames := 2, cells := 0, slots := 0, locals := 61 } : Room) D B n K I R [.ref (B + a0), .int x1] (zQi D (zOwn B K (B + n)) r B n K I R) := by
  refine ze_entry (lv0 := [(0, .ref (B + a0)), (1, .int x1)]) (by decide) (by simp [lg_sl, zcat, zcat_i, zcat_r, zcat_l]) (by simp [lv_args, zcat, zcat_i, zcat_r, zcat_l]) (fun p e s m below meth c X hr hlk hin hW ls hl => ?_)
  unfold f_X5_sequencePlace at hf
  refine lv_iload_n X.1 X.2.1 dX5_sequencePlace_0 rfl (lv_at hl 1 rfl) ?_
  refine lv_iconst (v := 1) X.1 X.2.1 dX5_sequencePlace_1 (by decide) ?_
  refine lv_iadd X.1 X.2.1 dX5_sequencePlace_2 ?_
  refine ze_nm hf (fun v8 hg => ?_)
  replace hf := hg
  refine lv_istore_n (i := 2) (lv' := [(2, .int v8), (0, .ref (B + a0)), (1, .int x1)]) X.1 X.2.1 dX5_sequencePlace_3 rfl hl (by decide) rfl (fun ls hk => ?_)
  replace hl := hk
  refine lv_aload_n X.1 X.2.1 dX5_sequencePlace_4 rfl (lv_at hl 1 rfl) ?_
  refine lv_iload_n X.1 X.2.1 dX5_sequencePlace_5 rfl (lv_at hl 2 rfl) ?_
  obtain ⟨v9, h10, hg⟩ := zh_bd hf
  replace hf := hg
  refine ze_aftI0 (ze_runV (As := [.int x1]) (rest := []) X 5 33 (c_X5_argumentsOf l D B n hK0 h10) vX5_argumentsOf kml_X5_33 hW hK0 rfl rfl ⟨by decide, by decide⟩ rfl hl.1 rfl (Nat.le_of_ble_eq_true rfl) ⟨Nat.le_refl _, Nat.le_refl _⟩ dX5_sequencePlace_6) hW (fun H locs hV => ?_)
  replace hW := hV
  refine lv_istore_n (i := 3) (lv' := [(3, .int v9), (2, .int v8), (0, .ref (B + a0)), (1, .int x1)]) X.1 X.2.1 dX5_sequencePlace_9 rfl hl (by decide) rfl (fun ls hk => ?_)
  replace hl := hk
  refine lv_iconst (v := 0) X.1 X.2.1 dX5_sequencePlace_10 (by decide) ?_
  refine lv_istore (lv' := [(4, .int (0 : Int32)), (3, .int v9), (2, .int v8), (0, .ref (B + a0)), (1, .int x1)]) X.1 X.2.1 dX5_sequencePlace_11 hl (by decide) rfl (fun ls hk => ?_)
  replace hl := hk
  exact w_X5_sequencePlace_13 X hr hlk hK0 hf hW (lv_sub hl [3, 2, 1, 0] rfl)
end

/-! LeastPatterns$Shaper.arrange(LLeastPatterns$Term;I)V -/
def f_X3_arrange_61 (F : Nat) (K : zK) (R : zR) (a0 : Nat) (k7 : zI → Option Nat → Int32 → Int32 → Option (zI)) (I : zI) (x1 : Option Nat) (x2 : Int32) (x3 : Int32) : Option (zI) :=
  k7 I x1 x2 (x3 + (-1 : Int32))
def g_X3_arrange_7 (F : Nat) (K : zK) (R : zR) (a0 : Nat)  (kself : zI → Option Nat → Int32 → Int32 → Option (zI)) (I : zI) (x1 : Option Nat) (x2 : Int32) (x3 : Int32) : Option (zI) :=
  if x3 < (0 : Int32) then
    zbd (zdr K x1 15) fun a2 =>
    zbd (f_X5_settle F K I R a2) fun I5 =>
    some I5
  else
    zbd (zdr K x1 15) fun a7 =>
    zbd (f_X5_sortOf F K I R a7 x3) fun v10 =>
    if v10 = (0 : Int32) then
      zbd (f_X5_numberOf F K I R a7 x3) fun v13 =>
      if ((x2 >>> (v13 &&& 31)) &&& (1 : Int32)) = (1 : Int32) then
        zbd (f_X5_argumentsOf F K I R a7 x3) fun v16 =>
        if v16 ≤ (1 : Int32) then
          f_X3_arrange_61 F K R a0 kself I (some a7) x2 x3
        else
          zbd (f_X5_sequencePlace F K I R a7 x3) fun v19 =>
          if (0 : Int32) ≤ v19 then
            f_X3_arrange_61 F K R a0 kself I (some a7) x2 x3
          else
            zbd (f_X3_orderArguments F K I R a0 (some a7) x3) fun I22 =>
            zbd (f_X3_moveArguments F K I22 R a0 (some a7) x3) fun I24 =>
            f_X3_arrange_61 F K R a0 kself I24 (some a7) x2 x3
      else
        f_X3_arrange_61 F K R a0 kself I (some a7) x2 x3
    else
      f_X3_arrange_61 F K R a0 kself I (some a7) x2 x3
def f_X3_arrange_7 (F : Nat) (K : zK) (R : zR) (a0 : Nat)  : Nat → zI → Option Nat → Int32 → Int32 → Option (zI)
  | 0, _, _, _, _ => none
  | t + 1, I, x1, x2, x3 => g_X3_arrange_7 F K R a0  (f_X3_arrange_7 F K R a0  t) I x1 x2 x3
def f_X3_arrange (F : Nat) (K : zK) (I : zI) (R : zR) (a0 : Nat) (x1 : Option Nat) (x2 : Int32) : Option (zI) :=
  zbd (zdr K x1 15) fun a26 =>
  zbd (some ((I a26 3) - (1 : Int32))) fun v29 =>
  f_X3_arrange_7 F K R a0 F I (some a26) x2 v29
section
variable {p : Program} {l : Launch} {e : Env} {s : State} {m : MethodId} {args : Array Value} {below : List Frame} {meth : Method} {c : Code} {D : zD} {B n n0 n' fd ld : Nat} {K K0 K' : zK} {I I' : zI} {R R' : zR} {H : Heap} {locs : List Loc} {ls : Array Slot} {r : Int32}
set_option maxRecDepth 100000 in
set_option maxHeartbeats 4000000 in
theorem w_X3_arrange_61 {F : Nat} {a0 : Nat} {k7 : zI → Option Nat → Int32 → Int32 → Option (zI)} (X : zX p s m c cX3_arrange 4 RX3 D) (hr : meth.sig.returnType = none) (hlk : meth.locks = false) (hK0 : (K a0).1 = 13) (hk7 : ∀ (I : zI) (x1 : Option Nat) (x2 : Int32) (x3 : Int32) (H : Heap) (locs : List Loc) (ls : Array Slot), k7 I x1 x2 x3 = some I' → zS (zOwn B K (B + n)) D B n K I R s.heap H locs → lv_has ls 4 [(0, .ref (B + a0)), (1, zrf B x1), (2, .int x2), (3, .int x3)] → W p l e ({ frames := 4, cells := 0, slots := 0, locals := 117 } : Room) s m args below meth c H locs 0 0 (MQ below (zQv D (zOwn B K (B + n)) B n K I' R) args s 0 0 (zOwn B K (B + n))) (F0 m 7 ls [])) {x1 : Option Nat} {x2 : Int32} {x3 : Int32} (hf : f_X3_arrange_61 F K R a0 k7 I x1 x2 x3 = some I') (hW : zS (zOwn B K (B + n)) D B n K I R s.heap H locs) (hl : lv_has ls 4 [(0, .ref (B + a0)), (1, zrf B x1), (2, .int x2), (3, .int x3)]) : W p l e ({ frames := 4, cells := 0, slots := 0, locals := 117 } : Room) s m args below meth c H locs 0 0 (MQ below (zQv D (zOwn B K (B + n)) B n K I' R) args s 0 0 (zOwn B K (B + n))) (F0 m 61 ls []) := by
  unfold f_X3_arrange_61 at hf
  refine ze_iinc (lv' := [(3, .int (x3 + (-1 : Int32))), (0, .ref (B + a0)), (1, zrf B x1), (2, .int x2)]) (d := -1) X.1 X.2.1 dX3_arrange_61 hl (k := 3) rfl (by decide) (by decide) rfl (fun ls hk => ?_)
  replace hl := hk
  refine lv_goto (tgt := 7) X.1 X.2.1 dX3_arrange_64 (by decide) ?_
  exact hk7 _ _ _ _ _ _ _ hf hW (lv_sub hl [1, 2, 3, 0] rfl)
set_option maxRecDepth 100000 in
set_option maxHeartbeats 4000000 in
theorem wg_X3_arrange_7 {F : Nat} {a0 : Nat}  (X : zX p s m c cX3_arrange 4 RX3 D) (hr : meth.sig.returnType = none) (hlk : meth.locks = false) (hK0 : (K a0).1 = 13)  {kself : zI → Option Nat → Int32 → Int32 → Option (zI)} (hkself : ∀ (I : zI) (x1 : Option Nat) (x2 : Int32) (x3 : Int32) (H : Heap) (locs : List Loc) (ls : Array Slot), kself I x1 x2 x3 = some I' → zS (zOwn B K (B + n)) D B n K I R s.heap H locs → lv_has ls 4 [(0, .ref (B + a0)), (1, zrf B x1), (2, .int x2), (3, .int x3)] → W p l e ({ frames := 4, cells := 0, slots := 0, locals := 117 } : Room) s m args below meth c H locs 0 0 (MQ below (zQv D (zOwn B K (B + n)) B n K I' R) args s 0 0 (zOwn B K (B + n))) (F0 m 7 ls [])) {x1 : Option Nat} {x2 : Int32} {x3 : Int32} (hf : g_X3_arrange_7 F K R a0  kself I x1 x2 x3 = some I') (hW : zS (zOwn B K (B + n)) D B n K I R s.heap H locs) (hl : lv_has ls 4 [(0, .ref (B + a0)), (1, zrf B x1), (2, .int x2), (3, .int x3)]) : W p l e ({ frames := 4, cells := 0, slots := 0, locals := 117 } : Room) s m args below meth c H locs 0 0 (MQ below (zQv D (zOwn B K (B + n)) B n K I' R) args s 0 0 (zOwn B K (B + n))) (F0 m 7 ls []) := by
  unfold g_X3_arrange_7 at hf
  refine lv_iload_n X.1 X.2.1 dX3_arrange_7 rfl (lv_at hl 3 rfl) ?_
  refine lv_if_lt (tgt := 67) X.1 X.2.1 dX3_arrange_8 (by decide) (fun c1 => ?_) (fun c1 => ?_)
  · replace hf := zif_pos c1 hf
    refine ze_aload_n X.1 X.2.1 dX3_arrange_67 rfl (lv_at hl 1 rfl) ?_
    obtain ⟨a2, rfl, k4, hg⟩ := zh_dr hf
    replace hf := hg
    obtain ⟨I5, h6, hg⟩ := zh_bd hf
    replace hf := hg
    refine ze_aftV0 (ze_runV (As := []) (rest := []) X 5 47 (c_X5_settle l D B n k4 h6) vX5_settle kml_X3_47 hW k4 rfl rfl ⟨by decide, by decide⟩ rfl hl.1 rfl (Nat.le_of_ble_eq_true rfl) ⟨Nat.le_refl _, Nat.le_refl _⟩ dX3_arrange_68) hW (fun H locs hV => ?_)
    replace hW := hV
    obtain rfl := zi1 hf
    exact ze_retV X hr hlk hW (Nat.le_refl _) (Nat.le_refl _) dX3_arrange_71
  · replace hf := zif_neg c1 hf
    refine ze_aload_n X.1 X.2.1 dX3_arrange_11 rfl (lv_at hl 1 rfl) ?_
    refine lv_iload_n X.1 X.2.1 dX3_arrange_12 rfl (lv_at hl 3 rfl) ?_
    obtain ⟨a7, rfl, k9, hg⟩ := zh_dr hf
    replace hf := hg
    obtain ⟨v10, h11, hg⟩ := zh_bd hf
    replace hf := hg
    refine ze_aftI0 (ze_runV (As := [.int x3]) (rest := []) X 5 53 (c_X5_sortOf l D B n k9 h11) vX5_sortOf kml_X3_53 hW k9 rfl rfl ⟨by decide, by decide⟩ rfl hl.1 rfl (Nat.le_of_ble_eq_true rfl) ⟨Nat.le_refl _, Nat.le_refl _⟩ dX3_arrange_13) hW (fun H locs hV => ?_)
    replace hW := hV
    refine lv_if_ne (tgt := 61) X.1 X.2.1 dX3_arrange_16 (by decide) (fun c12 => ?_) (fun c12 => ?_)
    · replace hf := zif_neg c12 hf
      exact w_X3_arrange_61 X hr hlk hK0 hkself hf hW hl
    · replace hf := zif_pos c12 hf
      refine lv_iload_n X.1 X.2.1 dX3_arrange_19 rfl (lv_at hl 2 rfl) ?_
      refine lv_aload_n X.1 X.2.1 dX3_arrange_20 rfl (lv_at hl 1 rfl) ?_
      refine lv_iload_n X.1 X.2.1 dX3_arrange_21 rfl (lv_at hl 3 rfl) ?_
      obtain ⟨v13, h14, hg⟩ := zh_bd hf
      replace hf := hg
      refine ze_aftI0 (ze_runV (As := [.int x3]) (rest := [.int x2]) X 5 56 (c_X5_numberOf l D B n k9 h14) vX5_numberOf kml_X3_56 hW k9 rfl rfl ⟨by decide, by decide⟩ rfl hl.1 rfl (Nat.le_of_ble_eq_true rfl) ⟨Nat.le_refl _, Nat.le_refl _⟩ dX3_arrange_22) hW (fun H locs hV => ?_)
      replace hW := hV
      refine lv_ishr X.1 X.2.1 dX3_arrange_25 ?_
      refine lv_iconst (v := 1) X.1 X.2.1 dX3_arrange_26 (by decide) ?_
      refine lv_iand X.1 X.2.1 dX3_arrange_27 ?_
      refine lv_iconst (v := 1) X.1 X.2.1 dX3_arrange_28 (by decide) ?_
      refine lv_icmp_ne (tgt := 61) X.1 X.2.1 dX3_arrange_29 (by decide) (fun c15 => ?_) (fun c15 => ?_)
      · replace hf := zif_neg c15 hf
        exact w_X3_arrange_61 X hr hlk hK0 hkself hf hW hl
      · replace hf := zif_pos c15 hf
        refine lv_aload_n X.1 X.2.1 dX3_arrange_32 rfl (lv_at hl 1 rfl) ?_
        refine lv_iload_n X.1 X.2.1 dX3_arrange_33 rfl (lv_at hl 3 rfl) ?_
        obtain ⟨v16, h17, hg⟩ := zh_bd hf
        replace hf := hg
        refine ze_aftI0 (ze_runV (As := [.int x3]) (rest := []) X 5 59 (c_X5_argumentsOf l D B n k9 h17) vX5_argumentsOf kml_X3_59 hW k9 rfl rfl ⟨by decide, by decide⟩ rfl hl.1 rfl (Nat.le_of_ble_eq_true rfl) ⟨Nat.le_refl _, Nat.le_refl _⟩ dX3_arrange_34) hW (fun H locs hV => ?_)
        replace hW := hV
        refine lv_iconst (v := 1) X.1 X.2.1 dX3_arrange_37 (by decide) ?_
        refine lv_icmp_le (tgt := 61) X.1 X.2.1 dX3_arrange_38 (by decide) (fun c18 => ?_) (fun c18 => ?_)
        · replace hf := zif_pos c18 hf
          exact w_X3_arrange_61 X hr hlk hK0 hkself hf hW hl
        · replace hf := zif_neg c18 hf
          refine lv_aload_n X.1 X.2.1 dX3_arrange_41 rfl (lv_at hl 1 rfl) ?_
          refine lv_iload_n X.1 X.2.1 dX3_arrange_42 rfl (lv_at hl 3 rfl) ?_
          obtain ⟨v19, h20, hg⟩ := zh_bd hf
          replace hf := hg
          refine ze_aftI0 (ze_runV (As := [.int x3]) (rest := []) X 5 65 (c_X5_sequencePlace l D B n k9 h20) vX5_sequencePlace kml_X3_65 hW k9 rfl rfl ⟨by decide, by decide⟩ rfl hl.1 rfl (Nat.le_of_ble_eq_true rfl) ⟨Nat.le_refl _, Nat.le_refl _⟩ dX3_arrange_43) hW (fun H locs hV => ?_)
          replace hW := hV
          refine lv_if_ge (tgt := 61) X.1 X.2.1 dX3_arrange_46 (by decide) (fun c21 => ?_) (fun c21 => ?_)
          · replace hf := zif_pos c21 hf
            exact w_X3_arrange_61 X hr hlk hK0 hkself hf hW hl
          · replace hf := zif_neg c21 hf
            refine lv_aload_n X.1 X.2.1 dX3_arrange_49 rfl (lv_at hl 0 rfl) ?_
            refine lv_aload_n X.1 X.2.1 dX3_arrange_50 rfl (lv_at hl 1 rfl) ?_
            refine lv_iload_n X.1 X.2.1 dX3_arrange_51 rfl (lv_at hl 3 rfl) ?_
            obtain ⟨I22, h23, hg⟩ := zh_bd hf
            replace hf := hg
            refine ze_aftV0 (ze_runV (As := [.ref (B + a7), .int x3]) (rest := []) X 3 68 (c_X3_orderArguments l D B n hK0 h23) vX3_orderArguments kml_X3_68 hW hK0 rfl rfl ⟨by decide, by decide⟩ rfl hl.1 rfl (Nat.le_of_ble_eq_true rfl) ⟨Nat.le_refl _, Nat.le_refl _⟩ dX3_arrange_52) hW (fun H locs hV => ?_)
            replace hW := hV
            refine lv_aload_n X.1 X.2.1 dX3_arrange_55 rfl (lv_at hl 0 rfl) ?_
            refine lv_aload_n X.1 X.2.1 dX3_arrange_56 rfl (lv_at hl 1 rfl) ?_
            refine lv_iload_n X.1 X.2.1 dX3_arrange_57 rfl (lv_at hl 3 rfl) ?_
            obtain ⟨I24, h25, hg⟩ := zh_bd hf
            replace hf := hg
            refine ze_aftV0 (ze_runV (As := [.ref (B + a7), .int x3]) (rest := []) X 3 72 (c_X3_moveArguments l D B n hK0 h25) vX3_moveArguments kml_X3_72 hW hK0 rfl rfl ⟨by decide, by decide⟩ rfl hl.1 rfl (Nat.le_of_ble_eq_true rfl) ⟨Nat.le_refl _, Nat.le_refl _⟩ dX3_arrange_58) hW (fun H locs hV => ?_)
            replace hW := hV
            exact w_X3_arrange_61 X hr hlk hK0 hkself hf hW hl
set_option maxRecDepth 100000 in
set_option maxHeartbeats 4000000 in
theorem w_X3_arrange_7 {F : Nat} {a0 : Nat}  (X : zX p s m c cX3_arrange 4 RX3 D) (hr : meth.sig.returnType = none) (hlk : meth.locks = false) (hK0 : (K a0).1 = 13)  {t : Nat} {x1 : Option Nat} {x2 : Int32} {x3 : Int32} (hf : f_X3_arrange_7 F K R a0  t I x1 x2 x3 = some I') (hW : zS (zOwn B K (B + n)) D B n K I R s.heap H locs) (hl : lv_has ls 4 [(0, .ref (B + a0)), (1, zrf B x1), (2, .int x2), (3, .int x3)]) : W p l e ({ frames := 4, cells := 0, slots := 0, locals := 117 } : Room) s m args below meth c H locs 0 0 (MQ below (zQv D (zOwn B K (B + n)) B n K I' R) args s 0 0 (zOwn B K (B + n))) (F0 m 7 ls []) := by
  have key : ∀ t : Nat, ∀ (I : zI) (x1 : Option Nat) (x2 : Int32) (x3 : Int32) (H : Heap) (locs : List Loc) (ls : Array Slot), f_X3_arrange_7 F K R a0  t I x1 x2 x3 = some I' → zS (zOwn B K (B + n)) D B n K I R s.heap H locs → lv_has ls 4 [(0, .ref (B + a0)), (1, zrf B x1), (2, .int x2), (3, .int x3)] → W p l e ({ frames := 4, cells := 0, slots := 0, locals := 117 } : Room) s m args below meth c H locs 0 0 (MQ below (zQv D (zOwn B K (B + n)) B n K I' R) args s 0 0 (zOwn B K (B + n))) (F0 m 7 ls []) := by
    intro t
    induction t with
    | zero =>
      intro I x1 x2 x3 H locs ls hf hW hl
      cases hf
    | succ t ih =>
      intro I x1 x2 x3 H locs ls hf hW hl
      exact wg_X3_arrange_7 X hr hlk hK0  ih hf hW hl
  exact key t _ _ _ _ _ _ _ hf hW hl
set_option maxRecDepth 100000 in
set_option maxHeartbeats 4000000 in
theorem c_X3_arrange (l : Launch) (D : zD) (B n : Nat) {F : Nat} {K : zK} {I : zI} {R : zR} {a0 : Nat} {x1 : Option Nat} {x2 : Int32} {I' : zI} (hK0 : (K a0).1 = 13) (hf : f_X3_arrange F K I R a0 x1 x2 = some I') : zM l yX3_arrange cX3_arrange 4 (none) ({ frames := 4, cells := 0, slots := 0, locals := 117 } : Room) D B n K I R [.ref (B + a0), zrf B x1, .int x2] (zQv D (zOwn B K (B + n)) B n K I' R) := by
  refine ze_entry (lv0 := [(0, .ref (B + a0)), (1, zrf B x1), (2, .int x2)]) (by decide) (by simp [lg_sl, zcat, zcat_i, zcat_r, zcat_l]) (by simp [lv_args, zcat, zcat_i, zcat_r, zcat_l]) (fun p e s m below meth c X hr hlk hin hW ls hl => ?_)
  unfold f_X3_arrange at hf
  refine ze_aload_n X.1 X.2.1 dX3_arrange_0 rfl (lv_at hl 1 rfl) ?_
  obtain ⟨a26, rfl, k28, hg⟩ := zh_dr hf
  replace hf := hg
  refine ze_getIN X 5 3 28 (RX5, TX5, 4) rfl hW k28 rfl (by decide) kfl_X3_28 dX3_arrange_1 ?_
  refine lv_iconst (v := 1) X.1 X.2.1 dX3_arrange_4 (by decide) ?_
  refine lv_isub X.1 X.2.1 dX3_arrange_5 ?_
  refine ze_nm hf (fun v29 hg => ?_)
  replace hf := hg
  refine lv_istore_n (i := 3) (lv' := [(3, .int v29), (0, .ref (B + a0)), (1, .ref (B + a26)), (2, .int x2)]) X.1 X.2.1 dX3_arrange_6 rfl hl (by decide) rfl (fun ls hk => ?_)
  replace hl := hk
  exact w_X3_arrange_7 X hr hlk hK0 hf hW (lv_sub hl [1, 2, 3, 0] rfl)
end

/-! LeastPatterns$Term.headOf(I)I -/
def f_X5_headOf (F : Nat) (K : zK) (I : zI) (R : zR) (a0 : Nat) (x1 : Int32) : Option (Int32) :=
  if x1 < (0 : Int32) then
    some (-1 : Int32)
  else
    if (I a0 3) ≤ x1 then
      some (-1 : Int32)
    else
      zbd (some (R a0 0)) fun o3 =>
      zbd (zdr K o3 1) fun a4 =>
      zbd (zrd K I a4 x1) fun v7 =>
      some (v7 >>> ((4 : Int32) &&& 31))
section
variable {p : Program} {l : Launch} {e : Env} {s : State} {m : MethodId} {args : Array Value} {below : List Frame} {meth : Method} {c : Code} {D : zD} {B n n0 n' fd ld : Nat} {K K0 K' : zK} {I I' : zI} {R R' : zR} {H : Heap} {locs : List Loc} {ls : Array Slot} {r : Int32}
set_option maxRecDepth 100000 in
set_option maxHeartbeats 4000000 in
theorem c_X5_headOf (l : Launch) (D : zD) (B n : Nat) {F : Nat} {K : zK} {I : zI} {R : zR} {a0 : Nat} {x1 : Int32} {r : Int32} (hK0 : (K a0).1 = 15) (hf : f_X5_headOf F K I R a0 x1 = some r) : zM l yX5_headOf cX5_headOf 2 (some .int) ({ frames := 1, cells := 0, slots := 0, locals := 40 } : Room) D B n K I R [.ref (B + a0), .int x1] (zQi D (zOwn B K (B + n)) r B n K I R) := by
  refine ze_entry (lv0 := [(0, .ref (B + a0)), (1, .int x1)]) (by decide) (by simp [lg_sl, zcat, zcat_i, zcat_r, zcat_l]) (by simp [lv_args, zcat, zcat_i, zcat_r, zcat_l]) (fun p e s m below meth c X hr hlk hin hW ls hl => ?_)
  unfold f_X5_headOf at hf
  refine lv_iload_n X.1 X.2.1 dX5_headOf_0 rfl (lv_at hl 1 rfl) ?_
  refine lv_if_lt (tgt := 23) X.1 X.2.1 dX5_headOf_1 (by decide) (fun c1 => ?_) (fun c1 => ?_)
  · replace hf := zif_pos c1 hf
    refine lv_iconst (v := -1) X.1 X.2.1 dX5_headOf_23 (by decide) ?_
    obtain rfl := zi1 hf
    exact ze_retI X hr hlk hW (Nat.le_refl _) (Nat.le_refl _) dX5_headOf_24
  · replace hf := zif_neg c1 hf
    refine lv_iload_n X.1 X.2.1 dX5_headOf_4 rfl (lv_at hl 1 rfl) ?_
    refine lv_aload_n X.1 X.2.1 dX5_headOf_5 rfl (lv_at hl 0 rfl) ?_
    refine ze_getI X 5 3 21 (RX5, TX5, 4) rfl hW hK0 rfl (by decide) kfl_X5_21 dX5_headOf_6 ?_
    refine lv_icmp_ge (tgt := 23) X.1 X.2.1 dX5_headOf_9 (by decide) (fun c2 => ?_) (fun c2 => ?_)
    · replace hf := zif_pos c2 hf
      refine lv_iconst (v := -1) X.1 X.2.1 dX5_headOf_23 (by decide) ?_
      obtain rfl := zi1 hf
      exact ze_retI X hr hlk hW (Nat.le_refl _) (Nat.le_refl _) dX5_headOf_24
    · replace hf := zif_neg c2 hf
      refine lv_aload_n X.1 X.2.1 dX5_headOf_12 rfl (lv_at hl 0 rfl) ?_
      refine ze_gtR X 5 0 9 (RX5, TX5, 4) rfl hf hW hK0 rfl (by decide) kfl_X5_9 dX5_headOf_13 (fun o3 hg => ?_)
      replace hf := hg
      refine lv_iload_n X.1 X.2.1 dX5_headOf_16 rfl (lv_at hl 1 rfl) ?_
      obtain ⟨a4, rfl, k6, hg⟩ := zh_dr hf
      replace hf := hg
      refine ze_iald X hf hW k6 dX5_headOf_17 (fun v7 hg => ?_)
      replace hf := hg
      refine lv_iconst (v := 4) X.1 X.2.1 dX5_headOf_18 (by decide) ?_
      refine lv_ishr X.1 X.2.1 dX5_headOf_19 ?_
      refine lv_goto (tgt := 24) X.1 X.2.1 dX5_headOf_20 (by decide) ?_
      obtain rfl := zi1 hf
      exact ze_retI X hr hlk hW (Nat.le_refl _) (Nat.le_refl _) dX5_headOf_24
end

/-! LeastPatterns$Shaper.countArguments(LLeastPatterns$Term;II)Z -/
def f_X3_countArguments_172 (F : Nat) (K : zK) (R : zR) (a0 : Nat)  (I : zI) (x2 : Int32) (x5 : Int32) (x6 : Int32) : Option (Int32 × zI) :=
  zbd (some (R a0 1)) fun o1 =>
  zbd (zdr K o1 1) fun a2 =>
  zbd (zwr K I a2 x2 x5) fun I5 =>
  zbd (some (R a0 2)) fun o6 =>
  zbd (zdr K o6 1) fun a7 =>
  zbd (zwr K I5 a7 x2 x6) fun I10 =>
  if (8 : Int32) < x5 then
    some ((0 : Int32), I10)
  else
    if (1 : Int32) < x6 then
      some ((0 : Int32), I10)
    else
      some ((1 : Int32), I10)
def f_X3_countArguments_155 (F : Nat) (K : zK) (R : zR) (a0 : Nat) (k57 : zI → Option Nat → Int32 → Int32 → Int32 → Int32 → Int32 → Int32 → Option (Int32 × zI)) (I : zI) (x1 : Option Nat) (x2 : Int32) (x4 : Int32) (x5 : Int32) (x6 : Int32) (x7 : Int32) (x8 : Int32) : Option (Int32 × zI) :=
  zbd (zdr K x1 15) fun a13 =>
  zbd (f_X5_spanOf F K I R a13 x7) fun v16 =>
  zbd (some (x7 + v16)) fun v18 =>
  k57 I (some a13) x2 x4 x5 x6 v18 (x8 + (-1 : Int32))
def f_X3_countArguments_152 (F : Nat) (K : zK) (R : zR) (a0 : Nat) (k57 : zI → Option Nat → Int32 → Int32 → Int32 → Int32 → Int32 → Int32 → Option (Int32 × zI)) (I : zI) (x1 : Option Nat) (x2 : Int32) (x4 : Int32) (x5 : Int32) (x7 : Int32) (x8 : Int32) (s0 : Int32) (s1 : Int32) : Option (Int32 × zI) :=
  zbd (some (s0 + s1)) fun v19 =>
  f_X3_countArguments_155 F K R a0 k57 I x1 x2 x4 x5 v19 x7 x8
def f_X3_countArguments_132 (F : Nat) (K : zK) (R : zR) (a0 : Nat) (k57 : zI → Option Nat → Int32 → Int32 → Int32 → Int32 → Int32 → Int32 → Option (Int32 × zI)) (I : zI) (x1 : Option Nat) (x2 : Int32) (x4 : Int32) (x5 : Int32) (x6 : Int32) (x7 : Int32) (x8 : Int32) : Option (Int32 × zI) :=
  zbd (zdr K x1 15) fun a20 =>
  zbd (f_X5_sortOf F K I R a20 x7) fun v23 =>
  if v23 = (3 : Int32) then
    f_X3_countArguments_152 F K R a0 k57 I (some a20) x2 x4 (x5 + (1 : Int32)) x7 x8 x6 (1 : Int32)
  else
    f_X3_countArguments_152 F K R a0 k57 I (some a20) x2 x4 (x5 + (1 : Int32)) x7 x8 x6 (0 : Int32)
def g_X3_countArguments_57 (F : Nat) (K : zK) (R : zR) (a0 : Nat)  (kself : zI → Option Nat → Int32 → Int32 → Int32 → Int32 → Int32 → Int32 → Option (Int32 × zI)) (I : zI) (x1 : Option Nat) (x2 : Int32) (x4 : Int32) (x5 : Int32) (x6 : Int32) (x7 : Int32) (x8 : Int32) : Option (Int32 × zI) :=
  if x8 ≤ (0 : Int32) then
    f_X3_countArguments_172 F K R a0 I x2 x5 x6
  else
    if (32 : Int32) ≤ x7 then
      f_X3_countArguments_172 F K R a0 I x2 x5 x6
    else
      if x4 = (0 : Int32) then
        f_X3_countArguments_132 F K R a0 kself I x1 x2 x4 x5 x6 x7 x8
      else
        zbd (zdr K x1 15) fun a29 =>
        zbd (f_X5_headOf F K I R a29 x7) fun v32 =>
        zbd (f_X5_headOf F K I R a29 x2) fun v34 =>
        if v32 = v34 then
          zbd (f_X5_argumentsOf F K I R a29 x7) fun v37 =>
          if v37 ≤ (0 : Int32) then
            f_X3_countArguments_132 F K R a0 kself I (some a29) x2 x4 x5 x6 x7 x8
          else
            zbd (some (R a0 0)) fun o40 =>
            zbd (zdr K o40 2) fun a41 =>
            zbd (zwrZ K I a41 x7 (1 : Int32)) fun I44 =>
            zbd (some (R a0 1)) fun o45 =>
            zbd (zdr K o45 1) fun a46 =>
            zbd (zrd K I44 a46 x7) fun v49 =>
            zbd (some (x5 + v49)) fun v50 =>
            zbd (some (R a0 2)) fun o51 =>
            zbd (zdr K o51 1) fun a52 =>
            zbd (zrd K I44 a52 x7) fun v55 =>
            zbd (some (x6 + v55)) fun v56 =>
            f_X3_countArguments_155 F K R a0 kself I44 (some a29) x2 x4 v50 v56 x7 x8
        else
          f_X3_countArguments_132 F K R a0 kself I (some a29) x2 x4 x5 x6 x7 x8
def f_X3_countArguments_57 (F : Nat) (K : zK) (R : zR) (a0 : Nat)  : Nat → zI → Option Nat → Int32 → Int32 → Int32 → Int32 → Int32 → Int32 → Option (Int32 × zI)
  | 0, _, _, _, _, _, _, _, _ => none
  | t + 1, I, x1, x2, x4, x5, x6, x7, x8 => g_X3_countArguments_57 F K R a0  (f_X3_countArguments_57 F K R a0  t) I x1 x2 x4 x5 x6 x7 x8
def f_X3_countArguments_37 (F : Nat) (K : zK) (R : zR) (a0 : Nat)  (I : zI) (x1 : Option Nat) (x2 : Int32) (s0 : Int32) : Option (Int32 × zI) :=
  zbd (some (x2 + (1 : Int32))) fun v57 =>
  zbd (zdr K x1 15) fun a58 =>
  zbd (f_X5_argumentsOf F K I R a58 x2) fun v61 =>
  f_X3_countArguments_57 F K R a0 F I (some a58) x2 s0 (0 : Int32) (0 : Int32) v57 v61
def f_X3_countArguments_36 (F : Nat) (K : zK) (R : zR) (a0 : Nat)  (I : zI) (x1 : Option Nat) (x2 : Int32) : Option (Int32 × zI) :=
  f_X3_countArguments_37 F K R a0 I x1 x2 (0 : Int32)
def f_X3_countArguments (F : Nat) (K : zK) (I : zI) (R : zR) (a0 : Nat) (x1 : Option Nat) (x2 : Int32) (x3 : Int32) : Option (Int32 × zI) :=
  zbd (f_X6_outside F K I R x2 (31 : Int32)) fun v63 =>
  if v63 = (0 : Int32) then
    zbd (zdr K x1 15) fun a66 =>
    zbd (f_X5_sortOf F K I R a66 x2) fun v69 =>
    if v69 = (0 : Int32) then
      zbd (f_X5_numberOf F K I R a66 x2) fun v72 =>
      if ((x3 >>> (v72 &&& 31)) &&& (1 : Int32)) = (1 : Int32) then
        f_X3_countArguments_37 F K R a0 I (some a66) x2 (1 : Int32)
      else
        f_X3_countArguments_36 F K R a0 I (some a66) x2
    else
      f_X3_countArguments_36 F K R a0 I (some a66) x2
  else
    some ((0 : Int32), I)
section
variable {p : Program} {l : Launch} {e : Env} {s : State} {m : MethodId} {args : Array Value} {below : List Frame} {meth : Method} {c : Code} {D : zD} {B n n0 n' fd ld : Nat} {K K0 K' : zK} {I I' : zI} {R R' : zR} {H : Heap} {locs : List Loc} {ls : Array Slot} {r : Int32}
set_option maxRecDepth 100000 in
set_option maxHeartbeats 4000000 in
theorem w_X3_countArguments_172 {F : Nat} {a0 : Nat}  (X : zX p s m c cX3_countArguments 9 RX3 D) (hr : meth.sig.returnType = some .boolean) (hlk : meth.locks = false) (hK0 : (K a0).1 = 13)  {x2 : Int32} {x5 : Int32} {x6 : Int32} (hf : f_X3_countArguments_172 F K R a0  I x2 x5 x6 = some (r, I')) (hW : zS (zOwn B K (B + n)) D B n K I R s.heap H locs) (hl : lv_has ls 9 [(0, .ref (B + a0)), (2, .int x2), (5, .int x5), (6, .int x6)]) : W p l e ({ frames := 2, cells := 0, slots := 0, locals := 61 } : Room) s m args below meth c H locs 0 0 (MQ below (zQi D (zOwn B K (B + n)) r B n K I' R) args s 0 0 (zOwn B K (B + n))) (F0 m 172 ls []) := by
  unfold f_X3_countArguments_172 at hf
  refine lv_aload_n X.1 X.2.1 dX3_countArguments_172 rfl (lv_at hl 0 rfl) ?_
  refine ze_gtR X 3 1 15 (RX3, TX3, 5) rfl hf hW hK0 rfl (by decide) kfl_X3_15 dX3_countArguments_173 (fun o1 hg => ?_)
  replace hf := hg
  refine lv_iload_n X.1 X.2.1 dX3_countArguments_176 rfl (lv_at hl 1 rfl) ?_
  refine lv_iload X.1 X.2.1 dX3_countArguments_177 (lv_at hl 2 rfl) ?_
  obtain ⟨a2, rfl, k4, hg⟩ := zh_dr hf
  replace hf := hg
  refine ze_iast X hf hW k4 dX3_countArguments_179 (fun I5 H locs hg hV => ?_)
  replace hf := hg
  replace hW := hV
  refine lv_aload_n X.1 X.2.1 dX3_countArguments_180 rfl (lv_at hl 0 rfl) ?_
  refine ze_gtR X 3 2 19 (RX3, TX3, 5) rfl hf hW hK0 rfl (by decide) kfl_X3_19 dX3_countArguments_181 (fun o6 hg => ?_)
  replace hf := hg
  refine lv_iload_n X.1 X.2.1 dX3_countArguments_184 rfl (lv_at hl 1 rfl) ?_
  refine lv_iload X.1 X.2.1 dX3_countArguments_185 (lv_at hl 3 rfl) ?_
  obtain ⟨a7, rfl, k9, hg⟩ := zh_dr hf
  replace hf := hg
  refine ze_iast X hf hW k9 dX3_countArguments_187 (fun I10 H locs hg hV => ?_)
  replace hf := hg
  replace hW := hV
  refine lv_iload X.1 X.2.1 dX3_countArguments_188 (lv_at hl 2 rfl) ?_
  refine lv_bipush (v := 8) X.1 X.2.1 dX3_countArguments_190 (by decide) ?_
  refine lv_icmp_gt (tgt := 205) X.1 X.2.1 dX3_countArguments_192 (by decide) (fun c11 => ?_) (fun c11 => ?_)
  · replace hf := zif_pos c11 hf
    refine lv_iconst (v := 0) X.1 X.2.1 dX3_countArguments_205 (by decide) ?_
    obtain ⟨rfl, rfl⟩ := zi2 hf
    exact ze_retZ X hr hlk (by decide) hW (Nat.le_refl _) (Nat.le_refl _) dX3_countArguments_206
  · replace hf := zif_neg c11 hf
    refine lv_iload X.1 X.2.1 dX3_countArguments_195 (lv_at hl 3 rfl) ?_
    refine lv_iconst (v := 1) X.1 X.2.1 dX3_countArguments_197 (by decide) ?_
    refine lv_icmp_gt (tgt := 205) X.1 X.2.1 dX3_countArguments_198 (by decide) (fun c12 => ?_) (fun c12 => ?_)
    · replace hf := zif_pos c12 hf
      refine lv_iconst (v := 0) X.1 X.2.1 dX3_countArguments_205 (by decide) ?_
      obtain ⟨rfl, rfl⟩ := zi2 hf
      exact ze_retZ X hr hlk (by decide) hW (Nat.le_refl _) (Nat.le_refl _) dX3_countArguments_206
    · replace hf := zif_neg c12 hf
      refine lv_iconst (v := 1) X.1 X.2.1 dX3_countArguments_201 (by decide) ?_
      refine lv_goto (tgt := 206) X.1 X.2.1 dX3_countArguments_202 (by decide) ?_
      obtain ⟨rfl, rfl⟩ := zi2 hf
      exact ze_retZ X hr hlk (by decide) hW (Nat.le_refl _) (Nat.le_refl _) dX3_countArguments_206
set_option maxRecDepth 100000 in
set_option maxHeartbeats 4000000 in
theorem w_X3_countArguments_155 {F : Nat} {a0 : Nat} {k57 : zI → Option Nat → Int32 → Int32 → Int32 → Int32 → Int32 → Int32 → Option (Int32 × zI)} (X : zX p s m c cX3_countArguments 9 RX3 D) (hr : meth.sig.returnType = some .boolean) (hlk : meth.locks = false) (hK0 : (K a0).1 = 13) (hk57 : ∀ (I : zI) (x1 : Option Nat) (x2 : Int32) (x4 : Int32) (x5 : Int32) (x6 : Int32) (x7 : Int32) (x8 : Int32) (H : Heap) (locs : List Loc) (ls : Array Slot), k57 I x1 x2 x4 x5 x6 x7 x8 = some (r, I') → zS (zOwn B K (B + n)) D B n K I R s.heap H locs → lv_has ls 9 [(0, .ref (B + a0)), (1, zrf B x1), (2, .int x2), (4, .int x4), (5, .int x5), (6, .int x6), (7, .int x7), (8, .int x8)] → W p l e ({ frames := 2, cells := 0, slots := 0, locals := 61 } : Room) s m args below meth c H locs 0 0 (MQ below (zQi D (zOwn B K (B + n)) r B n K I' R) args s 0 0 (zOwn B K (B + n))) (F0 m 57 ls [])) {x1 : Option Nat} {x2 : Int32} {x4 : Int32} {x5 : Int32} {x6 : Int32} {x7 : Int32} {x8 : Int32} (hf : f_X3_countArguments_155 F K R a0 k57 I x1 x2 x4 x5 x6 x7 x8 = some (r, I')) (hW : zS (zOwn B K (B + n)) D B n K I R s.heap H locs) (hl : lv_has ls 9 [(0, .ref (B + a0)), (1, zrf B x1), (2, .int x2), (4, .int x4), (5, .int x5), (6, .int x6), (7, .int x7), (8, .int x8)]) : W p l e ({ frames := 2, cells := 0, slots := 0, locals := 61 } : Room) s m args below meth c H locs 0 0 (MQ below (zQi D (zOwn B K (B + n)) r B n K I' R) args s 0 0 (zOwn B K (B + n))) (F0 m 155 ls []) := by
  unfold f_X3_countArguments_155 at hf
  refine lv_iload X.1 X.2.1 dX3_countArguments_155 (lv_at hl 6 rfl) ?_
  refine ze_aload_n X.1 X.2.1 dX3_countArguments_157 rfl (lv_at hl 1 rfl) ?_
  refine lv_iload X.1 X.2.1 dX3_countArguments_158 (lv_at hl 6 rfl) ?_
  obtain ⟨a13, rfl, k15, hg⟩ := zh_dr hf
  replace hf := hg
  obtain ⟨v16, h17, hg⟩ := zh_bd hf
  replace hf := hg
  refine ze_aftI0 (ze_runV (As := [.int x7]) (rest := [.int x7]) X 5 62 (c_X5_spanOf l D B n k15 h17) vX5_spanOf kml_X3_62 hW k15 rfl rfl ⟨by decide, by decide⟩ rfl hl.1 rfl (Nat.le_of_ble_eq_true rfl) ⟨Nat.le_refl _, Nat.le_refl _⟩ dX3_countArguments_160) hW (fun H locs hV => ?_)
  replace hW := hV
  refine lv_iadd X.1 X.2.1 dX3_countArguments_163 ?_
  refine ze_nm hf (fun v18 hg => ?_)
  replace hf := hg
  refine lv_istore (lv' := [(7, .int v18), (0, .ref (B + a0)), (1, .ref (B + a13)), (2, .int x2), (4, .int x4), (5, .int x5), (6, .int x6), (8, .int x8)]) X.1 X.2.1 dX3_countArguments_164 hl (by decide) rfl (fun ls hk => ?_)
  replace hl := hk
  refine ze_iinc (lv' := [(8, .int (x8 + (-1 : Int32))), (7, .int v18), (0, .ref (B + a0)), (1, .ref (B + a13)), (2, .int x2), (4, .int x4), (5, .int x5), (6, .int x6)]) (d := -1) X.1 X.2.1 dX3_countArguments_166 hl (k := 7) rfl (by decide) (by decide) rfl (fun ls hk => ?_)
  replace hl := hk
  refine lv_goto (tgt := 57) X.1 X.2.1 dX3_countArguments_169 (by decide) ?_
  exact hk57 _ _ _ _ _ _ _ _ _ _ _ hf hW (lv_sub hl [2, 3, 4, 5, 6, 7, 1, 0] rfl)
set_option maxRecDepth 100000 in
set_option maxHeartbeats 4000000 in
theorem w_X3_countArguments_152 {F : Nat} {a0 : Nat} {k57 : zI → Option Nat → Int32 → Int32 → Int32 → Int32 → Int32 → Int32 → Option (Int32 × zI)} (X : zX p s m c cX3_countArguments 9 RX3 D) (hr : meth.sig.returnType = some .boolean) (hlk : meth.locks = false) (hK0 : (K a0).1 = 13) (hk57 : ∀ (I : zI) (x1 : Option Nat) (x2 : Int32) (x4 : Int32) (x5 : Int32) (x6 : Int32) (x7 : Int32) (x8 : Int32) (H : Heap) (locs : List Loc) (ls : Array Slot), k57 I x1 x2 x4 x5 x6 x7 x8 = some (r, I') → zS (zOwn B K (B + n)) D B n K I R s.heap H locs → lv_has ls 9 [(0, .ref (B + a0)), (1, zrf B x1), (2, .int x2), (4, .int x4), (5, .int x5), (6, .int x6), (7, .int x7), (8, .int x8)] → W p l e ({ frames := 2, cells := 0, slots := 0, locals := 61 } : Room) s m args below meth c H locs 0 0 (MQ below (zQi D (zOwn B K (B + n)) r B n K I' R) args s 0 0 (zOwn B K (B + n))) (F0 m 57 ls [])) {x1 : Option Nat} {x2 : Int32} {x4 : Int32} {x5 : Int32} {x7 : Int32} {x8 : Int32} {s0 : Int32} {s1 : Int32} (hf : f_X3_countArguments_152 F K R a0 k57 I x1 x2 x4 x5 x7 x8 s0 s1 = some (r, I')) (hW : zS (zOwn B K (B + n)) D B n K I R s.heap H locs) (hl : lv_has ls 9 [(0, .ref (B + a0)), (1, zrf B x1), (2, .int x2), (4, .int x4), (5, .int x5), (7, .int x7), (8, .int x8)]) : W p l e ({ frames := 2, cells := 0, slots := 0, locals := 61 } : Room) s m args below meth c H locs 0 0 (MQ below (zQi D (zOwn B K (B + n)) r B n K I' R) args s 0 0 (zOwn B K (B + n))) (F0 m 152 ls [.int s1, .int s0]) := by
  unfold f_X3_countArguments_152 at hf
  refine lv_iadd X.1 X.2.1 dX3_countArguments_152 ?_
  refine ze_nm hf (fun v19 hg => ?_)
  replace hf := hg
  refine lv_istore (lv' := [(6, .int v19), (0, .ref (B + a0)), (1, zrf B x1), (2, .int x2), (4, .int x4), (5, .int x5), (7, .int x7), (8, .int x8)]) X.1 X.2.1 dX3_countArguments_153 hl (by decide) rfl (fun ls hk => ?_)
  replace hl := hk
  exact w_X3_countArguments_155 X hr hlk hK0 hk57 hf hW (lv_sub hl [1, 2, 3, 4, 5, 0, 6, 7] rfl)
set_option maxRecDepth 100000 in
set_option maxHeartbeats 4000000 in
theorem w_X3_countArguments_132 {F : Nat} {a0 : Nat} {k57 : zI → Option Nat → Int32 → Int32 → Int32 → Int32 → Int32 → Int32 → Option (Int32 × zI)} (X : zX p s m c cX3_countArguments 9 RX3 D) (hr : meth.sig.returnType = some .boolean) (hlk : meth.locks = false) (hK0 : (K a0).1 = 13) (hk57 : ∀ (I : zI) (x1 : Option Nat) (x2 : Int32) (x4 : Int32) (x5 : Int32) (x6 : Int32) (x7 : Int32) (x8 : Int32) (H : Heap) (locs : List Loc) (ls : Array Slot), k57 I x1 x2 x4 x5 x6 x7 x8 = some (r, I') → zS (zOwn B K (B + n)) D B n K I R s.heap H locs → lv_has ls 9 [(0, .ref (B + a0)), (1, zrf B x1), (2, .int x2), (4, .int x4), (5, .int x5), (6, .int x6), (7, .int x7), (8, .int x8)] → W p l e ({ frames := 2, cells := 0, slots := 0, locals := 61 } : Room) s m args below meth c H locs 0 0 (MQ below (zQi D (zOwn B K (B + n)) r B n K I' R) args s 0 0 (zOwn B K (B + n))) (F0 m 57 ls [])) {x1 : Option Nat} {x2 : Int32} {x4 : Int32} {x5 : Int32} {x6 : Int32} {x7 : Int32} {x8 : Int32} (hf : f_X3_countArguments_132 F K R a0 k57 I x1 x2 x4 x5 x6 x7 x8 = some (r, I')) (hW : zS (zOwn B K (B + n)) D B n K I R s.heap H locs) (hl : lv_has ls 9 [(0, .ref (B + a0)), (1, zrf B x1), (2, .int x2), (4, .int x4), (5, .int x5), (6, .int x6), (7, .int x7), (8, .int x8)]) : W p l e ({ frames := 2, cells := 0, slots := 0, locals := 61 } : Room) s m args below meth c H locs 0 0 (MQ below (zQi D (zOwn B K (B + n)) r B n K I' R) args s 0 0 (zOwn B K (B + n))) (F0 m 132 ls []) := by
  unfold f_X3_countArguments_132 at hf
  refine ze_iinc (lv' := [(5, .int (x5 + (1 : Int32))), (0, .ref (B + a0)), (1, zrf B x1), (2, .int x2), (4, .int x4), (6, .int x6), (7, .int x7), (8, .int x8)]) (d := 1) X.1 X.2.1 dX3_countArguments_132 hl (k := 4) rfl (by decide) (by decide) rfl (fun ls hk => ?_)
  replace hl := hk
  refine lv_iload X.1 X.2.1 dX3_countArguments_135 (lv_at hl 5 rfl) ?_
  refine ze_aload_n X.1 X.2.1 dX3_countArguments_137 rfl (lv_at hl 2 rfl) ?_
  refine lv_iload X.1 X.2.1 dX3_countArguments_138 (lv_at hl 6 rfl) ?_
  obtain ⟨a20, rfl, k22, hg⟩ := zh_dr hf
  replace hf := hg
  obtain ⟨v23, h24, hg⟩ := zh_bd hf
  replace hf := hg
  refine ze_aftI0 (ze_runV (As := [.int x7]) (rest := [.int x6]) X 5 53 (c_X5_sortOf l D B n k22 h24) vX5_sortOf kml_X3_53 hW k22 rfl rfl ⟨by decide, by decide⟩ rfl hl.1 rfl (Nat.le_of_ble_eq_true rfl) ⟨Nat.le_refl _, Nat.le_refl _⟩ dX3_countArguments_140) hW (fun H locs hV => ?_)
  replace hW := hV
  refine lv_iconst (v := 3) X.1 X.2.1 dX3_countArguments_143 (by decide) ?_
  refine lv_icmp_ne (tgt := 151) X.1 X.2.1 dX3_countArguments_144 (by decide) (fun c25 => ?_) (fun c25 => ?_)
  · replace hf := zif_neg c25 hf
    refine lv_iconst (v := 0) X.1 X.2.1 dX3_countArguments_151 (by decide) ?_
    exact w_X3_countArguments_152 X hr hlk hK0 hk57 hf hW (lv_sub hl [1, 2, 3, 4, 0, 6, 7] rfl)
  · replace hf := zif_pos c25 hf
    refine lv_iconst (v := 1) X.1 X.2.1 dX3_countArguments_147 (by decide) ?_
    refine lv_goto (tgt := 152) X.1 X.2.1 dX3_countArguments_148 (by decide) ?_
    exact w_X3_countArguments_152 X hr hlk hK0 hk57 hf hW (lv_sub hl [1, 2, 3, 4, 0, 6, 7] rfl)
set_option maxRecDepth 100000 in
set_option maxHeartbeats 4000000 in
theorem wg_X3_countArguments_57 {F : Nat} {a0 : Nat}  (X : zX p s m c cX3_countArguments 9 RX3 D) (hr : meth.sig.returnType = some .boolean) (hlk : meth.locks = false) (hK0 : (K a0).1 = 13)  {kself : zI → Option Nat → Int32 → Int32 → Int32 → Int32 → Int32 → Int32 → Option (Int32 × zI)} (hkself : ∀ (I : zI) (x1 : Option Nat) (x2 : Int32) (x4 : Int32) (x5 : Int32) (x6 : Int32) (x7 : Int32) (x8 : Int32) (H : Heap) (locs : List Loc) (ls : Array Slot), kself I x1 x2 x4 x5 x6 x7 x8 = some (r, I') → zS (zOwn B K (B + n)) D B n K I R s.heap H locs → lv_has ls 9 [(0, .ref (B + a0)), (1, zrf B x1), (2, .int x2), (4, .int x4), (5, .int x5), (6, .int x6), (7, .int x7), (8, .int x8)] → W p l e ({ frames := 2, cells := 0, slots := 0, locals := 61 } : Room) s m args below meth c H locs 0 0 (MQ below (zQi D (zOwn B K (B + n)) r B n K I' R) args s 0 0 (zOwn B K (B + n))) (F0 m 57 ls [])) {x1 : Option Nat} {x2 : Int32} {x4 : Int32} {x5 : Int32} {x6 : Int32} {x7 : Int32} {x8 : Int32} (hf : g_X3_countArguments_57 F K R a0  kself I x1 x2 x4 x5 x6 x7 x8 = some (r, I')) (hW : zS (zOwn B K (B + n)) D B n K I R s.heap H locs) (hl : lv_has ls 9 [(0, .ref (B + a0)), (1, zrf B x1), (2, .int x2), (4, .int x4), (5, .int x5), (6, .int x6), (7, .int x7), (8, .int x8)]) : W p l e ({ frames := 2, cells := 0, slots := 0, locals := 61 } : Room) s m args below meth c H locs 0 0 (MQ below (zQi D (zOwn B K (B + n)) r B n K I' R) args s 0 0 (zOwn B K (B + n))) (F0 m 57 ls []) := by
  unfold g_X3_countArguments_57 at hf
  refine lv_iload X.1 X.2.1 dX3_countArguments_57 (lv_at hl 7 rfl) ?_
  refine lv_if_le (tgt := 172) X.1 X.2.1 dX3_countArguments_59 (by decide) (fun c26 => ?_) (fun c26 => ?_)
  · replace hf := zif_pos c26 hf
    exact w_X3_countArguments_172 X hr hlk hK0 hf hW (lv_sub hl [0, 2, 4, 5] rfl)
  · replace hf := zif_neg c26 hf
    refine lv_iload X.1 X.2.1 dX3_countArguments_62 (lv_at hl 6 rfl) ?_
    refine lv_bipush (v := 32) X.1 X.2.1 dX3_countArguments_64 (by decide) ?_
    refine lv_icmp_ge (tgt := 172) X.1 X.2.1 dX3_countArguments_66 (by decide) (fun c27 => ?_) (fun c27 => ?_)
    · replace hf := zif_pos c27 hf
      exact w_X3_countArguments_172 X hr hlk hK0 hf hW (lv_sub hl [0, 2, 4, 5] rfl)
    · replace hf := zif_neg c27 hf
      refine lv_iload X.1 X.2.1 dX3_countArguments_69 (lv_at hl 3 rfl) ?_
      refine lv_if_eq (tgt := 132) X.1 X.2.1 dX3_countArguments_71 (by decide) (fun c28 => ?_) (fun c28 => ?_)
      · replace hf := zif_pos c28 hf
        exact w_X3_countArguments_132 X hr hlk hK0 hkself hf hW hl
      · replace hf := zif_neg c28 hf
        refine ze_aload_n X.1 X.2.1 dX3_countArguments_74 rfl (lv_at hl 1 rfl) ?_
        refine lv_iload X.1 X.2.1 dX3_countArguments_75 (lv_at hl 6 rfl) ?_
        obtain ⟨a29, rfl, k31, hg⟩ := zh_dr hf
        replace hf := hg
        obtain ⟨v32, h33, hg⟩ := zh_bd hf
        replace hf := hg
        refine ze_aftI0 (ze_runV (As := [.int x7]) (rest := []) X 5 39 (c_X5_headOf l D B n k31 h33) vX5_headOf kml_X3_39 hW k31 rfl rfl ⟨by decide, by decide⟩ rfl hl.1 rfl (Nat.le_of_ble_eq_true rfl) ⟨Nat.le_refl _, Nat.le_refl _⟩ dX3_countArguments_77) hW (fun H locs hV => ?_)
        replace hW := hV
        refine lv_aload_n X.1 X.2.1 dX3_countArguments_80 rfl (lv_at hl 1 rfl) ?_
        refine lv_iload_n X.1 X.2.1 dX3_countArguments_81 rfl (lv_at hl 2 rfl) ?_
        obtain ⟨v34, h35, hg⟩ := zh_bd hf
        replace hf := hg
        refine ze_aftI0 (ze_runV (As := [.int x2]) (rest := [.int v32]) X 5 39 (c_X5_headOf l D B n k31 h35) vX5_headOf kml_X3_39 hW k31 rfl rfl ⟨by decide, by decide⟩ rfl hl.1 rfl (Nat.le_of_ble_eq_true rfl) ⟨Nat.le_refl _, Nat.le_refl _⟩ dX3_countArguments_82) hW (fun H locs hV => ?_)
        replace hW := hV
        refine lv_icmp_ne (tgt := 132) X.1 X.2.1 dX3_countArguments_85 (by decide) (fun c36 => ?_) (fun c36 => ?_)
        · replace hf := zif_neg c36 hf
          exact w_X3_countArguments_132 X hr hlk hK0 hkself hf hW hl
        · replace hf := zif_pos c36 hf
          refine lv_aload_n X.1 X.2.1 dX3_countArguments_88 rfl (lv_at hl 1 rfl) ?_
          refine lv_iload X.1 X.2.1 dX3_countArguments_89 (lv_at hl 6 rfl) ?_
          obtain ⟨v37, h38, hg⟩ := zh_bd hf
          replace hf := hg
          refine ze_aftI0 (ze_runV (As := [.int x7]) (rest := []) X 5 59 (c_X5_argumentsOf l D B n k31 h38) vX5_argumentsOf kml_X3_59 hW k31 rfl rfl ⟨by decide, by decide⟩ rfl hl.1 rfl (Nat.le_of_ble_eq_true rfl) ⟨Nat.le_refl _, Nat.le_refl _⟩ dX3_countArguments_91) hW (fun H locs hV => ?_)
          replace hW := hV
          refine lv_if_le (tgt := 132) X.1 X.2.1 dX3_countArguments_94 (by decide) (fun c39 => ?_) (fun c39 => ?_)
          · replace hf := zif_pos c39 hf
            exact w_X3_countArguments_132 X hr hlk hK0 hkself hf hW hl
          · replace hf := zif_neg c39 hf
            refine lv_aload_n X.1 X.2.1 dX3_countArguments_97 rfl (lv_at hl 0 rfl) ?_
            refine ze_gtR X 3 0 9 (RX3, TX3, 5) rfl hf hW hK0 rfl (by decide) kfl_X3_9 dX3_countArguments_98 (fun o40 hg => ?_)
            replace hf := hg
            refine lv_iload X.1 X.2.1 dX3_countArguments_101 (lv_at hl 6 rfl) ?_
            refine lv_iconst (v := 1) X.1 X.2.1 dX3_countArguments_103 (by decide) ?_
            obtain ⟨a41, rfl, k43, hg⟩ := zh_dr hf
            replace hf := hg
            refine ze_zast X hf hW k43 dX3_countArguments_104 (fun I44 H locs hg hV => ?_)
            replace hf := hg
            replace hW := hV
            refine lv_iload X.1 X.2.1 dX3_countArguments_105 (lv_at hl 4 rfl) ?_
            refine lv_aload_n X.1 X.2.1 dX3_countArguments_107 rfl (lv_at hl 0 rfl) ?_
            refine ze_gtR X 3 1 15 (RX3, TX3, 5) rfl hf hW hK0 rfl (by decide) kfl_X3_15 dX3_countArguments_108 (fun o45 hg => ?_)
            replace hf := hg
            refine lv_iload X.1 X.2.1 dX3_countArguments_111 (lv_at hl 6 rfl) ?_
            obtain ⟨a46, rfl, k48, hg⟩ := zh_dr hf
            replace hf := hg
            refine ze_iald X hf hW k48 dX3_countArguments_113 (fun v49 hg => ?_)
            replace hf := hg
            refine lv_iadd X.1 X.2.1 dX3_countArguments_114 ?_
            refine ze_nm hf (fun v50 hg => ?_)
            replace hf := hg
            refine lv_istore (lv' := [(5, .int v50), (0, .ref (B + a0)), (1, .ref (B + a29)), (2, .int x2), (4, .int x4), (6, .int x6), (7, .int x7), (8, .int x8)]) X.1 X.2.1 dX3_countArguments_115 hl (by decide) rfl (fun ls hk => ?_)
            replace hl := hk
            refine lv_iload X.1 X.2.1 dX3_countArguments_117 (lv_at hl 5 rfl) ?_
            refine lv_aload_n X.1 X.2.1 dX3_countArguments_119 rfl (lv_at hl 1 rfl) ?_
            refine ze_gtR X 3 2 19 (RX3, TX3, 5) rfl hf hW hK0 rfl (by decide) kfl_X3_19 dX3_countArguments_120 (fun o51 hg => ?_)
            replace hf := hg
            refine lv_iload X.1 X.2.1 dX3_countArguments_123 (lv_at hl 6 rfl) ?_
            obtain ⟨a52, rfl, k54, hg⟩ := zh_dr hf
            replace hf := hg
            refine ze_iald X hf hW k54 dX3_countArguments_125 (fun v55 hg => ?_)
            replace hf := hg
            refine lv_iadd X.1 X.2.1 dX3_countArguments_126 ?_
            refine ze_nm hf (fun v56 hg => ?_)
            replace hf := hg
            refine lv_istore (lv' := [(6, .int v56), (5, .int v50), (0, .ref (B + a0)), (1, .ref (B + a29)), (2, .int x2), (4, .int x4), (7, .int x7), (8, .int x8)]) X.1 X.2.1 dX3_countArguments_127 hl (by decide) rfl (fun ls hk => ?_)
            replace hl := hk
            refine lv_goto (tgt := 155) X.1 X.2.1 dX3_countArguments_129 (by decide) ?_
            exact w_X3_countArguments_155 X hr hlk hK0 hkself hf hW (lv_sub hl [2, 3, 4, 5, 1, 0, 6, 7] rfl)
set_option maxRecDepth 100000 in
set_option maxHeartbeats 4000000 in
theorem w_X3_countArguments_57 {F : Nat} {a0 : Nat}  (X : zX p s m c cX3_countArguments 9 RX3 D) (hr : meth.sig.returnType = some .boolean) (hlk : meth.locks = false) (hK0 : (K a0).1 = 13)  {t : Nat} {x1 : Option Nat} {x2 : Int32} {x4 : Int32} {x5 : Int32} {x6 : Int32} {x7 : Int32} {x8 : Int32} (hf : f_X3_countArguments_57 F K R a0  t I x1 x2 x4 x5 x6 x7 x8 = some (r, I')) (hW : zS (zOwn B K (B + n)) D B n K I R s.heap H locs) (hl : lv_has ls 9 [(0, .ref (B + a0)), (1, zrf B x1), (2, .int x2), (4, .int x4), (5, .int x5), (6, .int x6), (7, .int x7), (8, .int x8)]) : W p l e ({ frames := 2, cells := 0, slots := 0, locals := 61 } : Room) s m args below meth c H locs 0 0 (MQ below (zQi D (zOwn B K (B + n)) r B n K I' R) args s 0 0 (zOwn B K (B + n))) (F0 m 57 ls []) := by
  have key : ∀ t : Nat, ∀ (I : zI) (x1 : Option Nat) (x2 : Int32) (x4 : Int32) (x5 : Int32) (x6 : Int32) (x7 : Int32) (x8 : Int32) (H : Heap) (locs : List Loc) (ls : Array Slot), f_X3_countArguments_57 F K R a0  t I x1 x2 x4 x5 x6 x7 x8 = some (r, I') → zS (zOwn B K (B + n)) D B n K I R s.heap H locs → lv_has ls 9 [(0, .ref (B + a0)), (1, zrf B x1), (2, .int x2), (4, .int x4), (5, .int x5), (6, .int x6), (7, .int x7), (8, .int x8)] → W p l e ({ frames := 2, cells := 0, slots := 0, locals := 61 } : Room) s m args below meth c H locs 0 0 (MQ below (zQi D (zOwn B K (B + n)) r B n K I' R) args s 0 0 (zOwn B K (B + n))) (F0 m 57 ls []) := by
    intro t
    induction t with
    | zero =>
      intro I x1 x2 x4 x5 x6 x7 x8 H locs ls hf hW hl
      cases hf
    | succ t ih =>
      intro I x1 x2 x4 x5 x6 x7 x8 H locs ls hf hW hl
      exact wg_X3_countArguments_57 X hr hlk hK0  ih hf hW hl
  exact key t _ _ _ _ _ _ _ _ _ _ _ hf hW hl
set_option maxRecDepth 100000 in
set_option maxHeartbeats 4000000 in
theorem w_X3_countArguments_37 {F : Nat} {a0 : Nat}  (X : zX p s m c cX3_countArguments 9 RX3 D) (hr : meth.sig.returnType = some .boolean) (hlk : meth.locks = false) (hK0 : (K a0).1 = 13)  {x1 : Option Nat} {x2 : Int32} {s0 : Int32} (hf : f_X3_countArguments_37 F K R a0  I x1 x2 s0 = some (r, I')) (hW : zS (zOwn B K (B + n)) D B n K I R s.heap H locs) (hl : lv_has ls 9 [(0, .ref (B + a0)), (1, zrf B x1), (2, .int x2)]) : W p l e ({ frames := 2, cells := 0, slots := 0, locals := 61 } : Room) s m args below meth c H locs 0 0 (MQ below (zQi D (zOwn B K (B + n)) r B n K I' R) args s 0 0 (zOwn B K (B + n))) (F0 m 37 ls [.int s0]) := by
  unfold f_X3_countArguments_37 at hf
  refine lv_istore (lv' := [(4, .int s0), (0, .ref (B + a0)), (1, zrf B x1), (2, .int x2)]) X.1 X.2.1 dX3_countArguments_37 hl (by decide) rfl (fun ls hk => ?_)
  replace hl := hk
  refine lv_iconst (v := 0) X.1 X.2.1 dX3_countArguments_39 (by decide) ?_
  refine lv_istore (lv' := [(5, .int (0 : Int32)), (4, .int s0), (0, .ref (B + a0)), (1, zrf B x1), (2, .int x2)]) X.1 X.2.1 dX3_countArguments_40 hl (by decide) rfl (fun ls hk => ?_)
  replace hl := hk
  refine lv_iconst (v := 0) X.1 X.2.1 dX3_countArguments_42 (by decide) ?_
  refine lv_istore (lv' := [(6, .int (0 : Int32)), (5, .int (0 : Int32)), (4, .int s0), (0, .ref (B + a0)), (1, zrf B x1), (2, .int x2)]) X.1 X.2.1 dX3_countArguments_43 hl (by decide) rfl (fun ls hk => ?_)
  replace hl := hk
  refine lv_iload_n X.1 X.2.1 dX3_countArguments_45 rfl (lv_at hl 5 rfl) ?_
  refine lv_iconst (v := 1) X.1 X.2.1 dX3_countArguments_46 (by decide) ?_
  refine lv_iadd X.1 X.2.1 dX3_countArguments_47 ?_
  refine ze_nm hf (fun v57 hg => ?_)
  replace hf := hg
  refine lv_istore (lv' := [(7, .int v57), (6, .int (0 : Int32)), (5, .int (0 : Int32)), (4, .int s0), (0, .ref (B + a0)), (1, zrf B x1), (2, .int x2)]) X.1 X.2.1 dX3_countArguments_48 hl (by decide) rfl (fun ls hk => ?_)
  replace hl := hk
  refine ze_aload_n X.1 X.2.1 dX3_countArguments_50 rfl (lv_at hl 5 rfl) ?_
  refine lv_iload_n X.1 X.2.1 dX3_countArguments_51 rfl (lv_at hl 6 rfl) ?_
  obtain ⟨a58, rfl, k60, hg⟩ := zh_dr hf
  replace hf := hg
  obtain ⟨v61, h62, hg⟩ := zh_bd hf
  replace hf := hg
  refine ze_aftI0 (ze_runV (As := [.int x2]) (rest := []) X 5 59 (c_X5_argumentsOf l D B n k60 h62) vX5_argumentsOf kml_X3_59 hW k60 rfl rfl ⟨by decide, by decide⟩ rfl hl.1 rfl (Nat.le_of_ble_eq_true rfl) ⟨Nat.le_refl _, Nat.le_refl _⟩ dX3_countArguments_52) hW (fun H locs hV => ?_)
  replace hW := hV
  refine lv_istore (lv' := [(8, .int v61), (7, .int v57), (6, .int (0 : Int32)), (5, .int (0 : Int32)), (4, .int s0), (0, .ref (B + a0)), (1, .ref (B + a58)), (2, .int x2)]) X.1 X.2.1 dX3_countArguments_55 hl (by decide) rfl (fun ls hk => ?_)
  replace hl := hk
  exact w_X3_countArguments_57 X hr hlk hK0 hf hW (lv_sub hl [5, 6, 7, 4, 3, 2, 1, 0] rfl)
set_option maxRecDepth 100000 in
set_option maxHeartbeats 4000000 in
theorem w_X3_countArguments_36 {F : Nat} {a0 : Nat}  (X : zX p s m c cX3_countArguments 9 RX3 D) (hr : meth.sig.returnType = some .boolean) (hlk : meth.locks = false) (hK0 : (K a0).1 = 13)  {x1 : Option Nat} {x2 : Int32} (hf : f_X3_countArguments_36 F K R a0  I x1 x2 = some (r, I')) (hW : zS (zOwn B K (B + n)) D B n K I R s.heap H locs) (hl : lv_has ls 9 [(0, .ref (B + a0)), (1, zrf B x1), (2, .int x2)]) : W p l e ({ frames := 2, cells := 0, slots := 0, locals := 61 } : Room) s m args below meth c H locs 0 0 (MQ below (zQi D (zOwn B K (B + n)) r B n K I' R) args s 0 0 (zOwn B K (B + n))) (F0 m 36 ls []) := by
  unfold f_X3_countArguments_36 at hf
  refine lv_iconst (v := 0) X.1 X.2.1 dX3_countArguments_36 (by decide) ?_
  exact w_X3_countArguments_37 X hr hlk hK0 hf hW hl
set_option maxRecDepth 100000 in
set_option maxHeartbeats 4000000 in
theorem c_X3_countArguments (l : Launch) (D : zD) (B n : Nat) {F : Nat} {K : zK} {I : zI} {R : zR} {a0 : Nat} {x1 : Option Nat} {x2 : Int32} {x3 : Int32} {r : Int32} {I' : zI} (hK0 : (K a0).1 = 13) (hf : f_X3_countArguments F K I R a0 x1 x2 x3 = some (r, I')) : zM l yX3_countArguments cX3_countArguments 9 (some .boolean) ({ frames := 2, cells := 0, slots := 0, locals := 61 } : Room) D B n K I R [.ref (B + a0), zrf B x1, .int x2, .int x3] (zQi D (zOwn B K (B + n)) r B n K I' R) := by
  refine ze_entry (lv0 := [(0, .ref (B + a0)), (1, zrf B x1), (2, .int x2), (3, .int x3)]) (by decide) (by simp [lg_sl, zcat, zcat_i, zcat_r, zcat_l]) (by simp [lv_args, zcat, zcat_i, zcat_r, zcat_l]) (fun p e s m below meth c X hr hlk hin hW ls hl => ?_)
  unfold f_X3_countArguments at hf
  refine lv_iload_n X.1 X.2.1 dX3_countArguments_0 rfl (lv_at hl 2 rfl) ?_
  refine lv_bipush (v := 31) X.1 X.2.1 dX3_countArguments_1 (by decide) ?_
  obtain ⟨v63, h64, hg⟩ := zh_bd hf
  replace hf := hg
  refine ze_aftI0 (ze_runSN (As := [.int x2, .int (31 : Int32)]) (rest := []) X 50 (c_X6_outside l D B n h64) vX6_outside kml_X3_50 hW ⟨by decide, by decide⟩ rfl hl.1 rfl (Nat.le_of_ble_eq_true rfl) ⟨Nat.le_refl _, Nat.le_refl _⟩ dX3_countArguments_3) hW (fun H locs hV => ?_)
  replace hW := hV
  refine lv_if_eq (tgt := 11) X.1 X.2.1 dX3_countArguments_6 (by decide) (fun c65 => ?_) (fun c65 => ?_)
  · replace hf := zif_pos c65 hf
    refine ze_aload_n X.1 X.2.1 dX3_countArguments_11 rfl (lv_at hl 1 rfl) ?_
    refine lv_iload_n X.1 X.2.1 dX3_countArguments_12 rfl (lv_at hl 2 rfl) ?_
    obtain ⟨a66, rfl, k68, hg⟩ := zh_dr hf
    replace hf := hg
    obtain ⟨v69, h70, hg⟩ := zh_bd hf
    replace hf := hg
    refine ze_aftI0 (ze_runV (As := [.int x2]) (rest := []) X 5 53 (c_X5_sortOf l D B n k68 h70) vX5_sortOf kml_X3_53 hW k68 rfl rfl ⟨by decide, by decide⟩ rfl hl.1 rfl (Nat.le_of_ble_eq_true rfl) ⟨Nat.le_refl _, Nat.le_refl _⟩ dX3_countArguments_13) hW (fun H locs hV => ?_)
    replace hW := hV
    refine lv_if_ne (tgt := 36) X.1 X.2.1 dX3_countArguments_16 (by decide) (fun c71 => ?_) (fun c71 => ?_)
    · replace hf := zif_neg c71 hf
      exact w_X3_countArguments_36 X hr hlk hK0 hf hW (lv_sub hl [0, 1, 2] rfl)
    · replace hf := zif_pos c71 hf
      refine lv_iload_n X.1 X.2.1 dX3_countArguments_19 rfl (lv_at hl 3 rfl) ?_
      refine lv_aload_n X.1 X.2.1 dX3_countArguments_20 rfl (lv_at hl 1 rfl) ?_
      refine lv_iload_n X.1 X.2.1 dX3_countArguments_21 rfl (lv_at hl 2 rfl) ?_
      obtain ⟨v72, h73, hg⟩ := zh_bd hf
      replace hf := hg
      refine ze_aftI0 (ze_runV (As := [.int x2]) (rest := [.int x3]) X 5 56 (c_X5_numberOf l D B n k68 h73) vX5_numberOf kml_X3_56 hW k68 rfl rfl ⟨by decide, by decide⟩ rfl hl.1 rfl (Nat.le_of_ble_eq_true rfl) ⟨Nat.le_refl _, Nat.le_refl _⟩ dX3_countArguments_22) hW (fun H locs hV => ?_)
      replace hW := hV
      refine lv_ishr X.1 X.2.1 dX3_countArguments_25 ?_
      refine lv_iconst (v := 1) X.1 X.2.1 dX3_countArguments_26 (by decide) ?_
      refine lv_iand X.1 X.2.1 dX3_countArguments_27 ?_
      refine lv_iconst (v := 1) X.1 X.2.1 dX3_countArguments_28 (by decide) ?_
      refine lv_icmp_ne (tgt := 36) X.1 X.2.1 dX3_countArguments_29 (by decide) (fun c74 => ?_) (fun c74 => ?_)
      · replace hf := zif_neg c74 hf
        exact w_X3_countArguments_36 X hr hlk hK0 hf hW (lv_sub hl [0, 1, 2] rfl)
      · replace hf := zif_pos c74 hf
        refine lv_iconst (v := 1) X.1 X.2.1 dX3_countArguments_32 (by decide) ?_
        refine lv_goto (tgt := 37) X.1 X.2.1 dX3_countArguments_33 (by decide) ?_
        exact w_X3_countArguments_37 X hr hlk hK0 hf hW (lv_sub hl [0, 1, 2] rfl)
  · replace hf := zif_neg c65 hf
    refine lv_iconst (v := 0) X.1 X.2.1 dX3_countArguments_9 (by decide) ?_
    obtain ⟨rfl, rfl⟩ := zi2 hf
    exact ze_retZ X hr hlk (by decide) hW (Nat.le_refl _) (Nat.le_refl _) dX3_countArguments_10
end

/-! LeastPatterns$Shaper.flattened(LLeastPatterns$Term;I)LLeastPatterns$Term; -/
def f_X3_flattened_111 (F : Nat) (a0 : Nat)  (n : Nat) (K : zK) (I : zI) (R : zR) (x3 : Option Nat) : Option (Option Nat × Nat × zK × zI × zR) :=
  zbd (zdr K x3 15) fun a1 =>
  zbd (f_X5_settle F K I R a1) fun I4 =>
  some ((some a1), n, K, I4, R)
def f_X3_flattened_105 (F : Nat) (a0 : Nat) (k61 : Nat → zK → zI → zR → Option Nat → Option Nat → Int32 → Option (Option Nat × Nat × zK × zI × zR)) (n : Nat) (K : zK) (I : zI) (R : zR) (x1 : Option Nat) (x3 : Option Nat) (x4 : Int32) : Option (Option Nat × Nat × zK × zI × zR) :=
  k61 n K I R x1 x3 (x4 + (1 : Int32))
def g_X3_flattened_61 (F : Nat) (a0 : Nat)  (kself : Nat → zK → zI → zR → Option Nat → Option Nat → Int32 → Option (Option Nat × Nat × zK × zI × zR)) (n : Nat) (K : zK) (I : zI) (R : zR) (x1 : Option Nat) (x3 : Option Nat) (x4 : Int32) : Option (Option Nat × Nat × zK × zI × zR) :=
  zbd (zdr K x1 15) fun a6 =>
  if (I a6 3) ≤ x4 then
    f_X3_flattened_111 F a0 n K I R x3
  else
    if (32 : Int32) ≤ x4 then
      f_X3_flattened_111 F a0 n K I R x3
    else
      if (K a0).1 = 13 then
      zbd (some (R a0 0)) fun o12 =>
      zbd (zdr K o12 2) fun a13 =>
      zbd (zrd K I a13 x4) fun v16 =>
      if v16 = (0 : Int32) then
        zbd (f_X5_headOf F K I R a6 x4) fun v18 =>
        zbd (some (R a0 1)) fun o20 =>
        zbd (zdr K o20 1) fun a21 =>
        zbd (zrd K I a21 x4) fun v24 =>
        zbd (zdr K x3 15) fun a25 =>
        zbd2 (f_X5_append F K I R a25 v18 v24) fun v28 I29 =>
        f_X3_flattened_105 F a0 kself n K I29 R (some a6) (some a25) x4
      else
        f_X3_flattened_105 F a0 kself n K I R (some a6) x3 x4
      else none
def f_X3_flattened_61 (F : Nat) (a0 : Nat)  : Nat → Nat → zK → zI → zR → Option Nat → Option Nat → Int32 → Option (Option Nat × Nat × zK × zI × zR)
  | 0, _, _, _, _, _, _, _ => none
  | t + 1, n, K, I, R, x1, x3, x4 => g_X3_flattened_61 F a0  (f_X3_flattened_61 F a0  t) n K I R x1 x3 x4
def g_X3_flattened_28 (F : Nat) (a0 : Nat)  (kself : Nat → zK → zI → zR → Option Nat → Int32 → Int32 → Option (Option Nat × Nat × zK × zI × zR)) (n : Nat) (K : zK) (I : zI) (R : zR) (x1 : Option Nat) (x2 : Int32) (x3 : Int32) : Option (Option Nat × Nat × zK × zI × zR) :=
  if x3 < (0 : Int32) then
    zbd4 (some (n + 1, zset K n (15, 0), zclr I n 0, zclr R n none)) fun n32 K33 I34 R35 =>
    zbd4 (f_X5_init F n32 K33 I34 R35 n) fun n36 K37 I38 R39 =>
    f_X3_flattened_61 F a0 F n36 K37 I38 R39 x1 (some n) (0 : Int32)
  else
    if (K a0).1 = 13 then
    zbd2 (f_X3_countArguments F K I R a0 x1 x3 x2) fun v42 I43 =>
    if v42 = (0 : Int32) then
      some (none, n, K, I43, R)
    else
      kself n K I43 R x1 x2 (x3 + (-1 : Int32))
    else none
def f_X3_flattened_28 (F : Nat) (a0 : Nat)  : Nat → Nat → zK → zI → zR → Option Nat → Int32 → Int32 → Option (Option Nat × Nat × zK × zI × zR)
  | 0, _, _, _, _, _, _, _ => none
  | t + 1, n, K, I, R, x1, x2, x3 => g_X3_flattened_28 F a0  (f_X3_flattened_28 F a0  t) n K I R x1 x2 x3
def g_X3_flattened_2 (F : Nat) (a0 : Nat)  (kself : Nat → zK → zI → zR → Option Nat → Int32 → Int32 → Option (Option Nat × Nat × zK × zI × zR)) (n : Nat) (K : zK) (I : zI) (R : zR) (x1 : Option Nat) (x2 : Int32) (x3 : Int32) : Option (Option Nat × Nat × zK × zI × zR) :=
  if (32 : Int32) ≤ x3 then
    zbd (zdr K x1 15) fun a47 =>
    zbd (some ((I a47 3) - (1 : Int32))) fun v50 =>
    f_X3_flattened_28 F a0 F n K I R (some a47) x2 v50
  else
    if (K a0).1 = 13 then
    zbd (some (R a0 0)) fun o52 =>
    zbd (zdr K o52 2) fun a53 =>
    zbd (zwrZ K I a53 x3 (0 : Int32)) fun I56 =>
    kself n K I56 R x1 x2 (x3 + (1 : Int32))
    else none
def f_X3_flattened_2 (F : Nat) (a0 : Nat)  : Nat → Nat → zK → zI → zR → Option Nat → Int32 → Int32 → Option (Option Nat × Nat × zK × zI × zR)
  | 0, _, _, _, _, _, _, _ => none
  | t + 1, n, K, I, R, x1, x2, x3 => g_X3_flattened_2 F a0  (f_X3_flattened_2 F a0  t) n K I R x1 x2 x3
def f_X3_flattened (F : Nat) (n : Nat) (K : zK) (I : zI) (R : zR) (a0 : Nat) (x1 : Option Nat) (x2 : Int32) : Option (Option Nat × Nat × zK × zI × zR) :=
  f_X3_flattened_2 F a0 F n K I R x1 x2 (0 : Int32)
section
variable {p : Program} {l : Launch} {e : Env} {s : State} {m : MethodId} {args : Array Value} {below : List Frame} {meth : Method} {c : Code} {D : zD} {B n n0 n' fd ld : Nat} {K K0 K' : zK} {I I' : zI} {R R' : zR} {H : Heap} {locs : List Loc} {ls : Array Slot} {r : Option Nat}
set_option maxRecDepth 100000 in
set_option maxHeartbeats 4000000 in
theorem w_X3_flattened_111 {F : Nat} {a0 : Nat}  (X : zX p s m c cX3_flattened 5 RX3 D) (hr : meth.sig.returnType = some (.object "LeastPatterns$Term")) (hlk : meth.locks = false)  {x3 : Option Nat} {cells slots : Nat} (hf : f_X3_flattened_111 F a0  n K I R x3 = some (r, n', K', I', R')) (b1 : cells + 0 ≤ 4) (b2 : slots + 0 ≤ 100) (hW : zS (zOwn B K0 (B + n0)) D B n K I R s.heap H locs) (hl : lv_has ls 5 [(0, .ref (B + a0)), (3, zrf B x3)]) : W p l e ({ frames := 3, cells := 4, slots := 100, locals := 89 } : Room) s m args below meth c H locs cells slots (MQ below (zQq D (zOwn B K0 (B + n0)) r B n' K' I' R') args s 4 100 (zOwn B K0 (B + n0))) (F0 m 111 ls []) := by
  unfold f_X3_flattened_111 at hf
  refine ze_aload_n X.1 X.2.1 dX3_flattened_111 rfl (lv_at hl 1 rfl) ?_
  obtain ⟨a1, rfl, k3, hg⟩ := zh_dr hf
  replace hf := hg
  obtain ⟨I4, h5, hg⟩ := zh_bd hf
  replace hf := hg
  refine ze_aftV0 (ze_runV (As := []) (rest := []) X 5 47 (c_X5_settle l D B n k3 h5) vX5_settle kml_X3_47 hW k3 rfl rfl ⟨by decide, by decide⟩ rfl hl.1 rfl (Nat.le_of_ble_eq_true rfl) ⟨by show _ + 0 ≤ (4 : Nat); (try dsimp only); omega, by show _ + 0 ≤ (100 : Nat); (try dsimp only); omega⟩ dX3_flattened_112) hW (fun H locs hV => ?_)
  replace hW := hV
  refine lv_aload_n X.1 X.2.1 dX3_flattened_115 rfl (lv_at hl 1 rfl) ?_
  obtain ⟨rfl, rfl, rfl, rfl, rfl⟩ := zi5 hf
  exact ze_retQ X hr hlk hW (by (try dsimp only); omega) (by (try dsimp only); omega) dX3_flattened_116
set_option maxRecDepth 100000 in
set_option maxHeartbeats 4000000 in
theorem w_X3_flattened_105 {F : Nat} {a0 : Nat} {k61 : Nat → zK → zI → zR → Option Nat → Option Nat → Int32 → Option (Option Nat × Nat × zK × zI × zR)} (X : zX p s m c cX3_flattened 5 RX3 D) (hr : meth.sig.returnType = some (.object "LeastPatterns$Term")) (hlk : meth.locks = false) (hk61 : ∀ (n : Nat) (K : zK) (I : zI) (R : zR) (x1 : Option Nat) (x3 : Option Nat) (x4 : Int32) (cells slots : Nat) (H : Heap) (locs : List Loc) (ls : Array Slot), k61 n K I R x1 x3 x4 = some (r, n', K', I', R') → cells + 0 ≤ 4 → slots + 0 ≤ 100 → zS (zOwn B K0 (B + n0)) D B n K I R s.heap H locs → lv_has ls 5 [(0, .ref (B + a0)), (1, zrf B x1), (3, zrf B x3), (4, .int x4)] → W p l e ({ frames := 3, cells := 4, slots := 100, locals := 89 } : Room) s m args below meth c H locs cells slots (MQ below (zQq D (zOwn B K0 (B + n0)) r B n' K' I' R') args s 4 100 (zOwn B K0 (B + n0))) (F0 m 61 ls [])) {x1 : Option Nat} {x3 : Option Nat} {x4 : Int32} {cells slots : Nat} (hf : f_X3_flattened_105 F a0 k61 n K I R x1 x3 x4 = some (r, n', K', I', R')) (b1 : cells + 0 ≤ 4) (b2 : slots + 0 ≤ 100) (hW : zS (zOwn B K0 (B + n0)) D B n K I R s.heap H locs) (hl : lv_has ls 5 [(0, .ref (B + a0)), (1, zrf B x1), (3, zrf B x3), (4, .int x4)]) : W p l e ({ frames := 3, cells := 4, slots := 100, locals := 89 } : Room) s m args below meth c H locs cells slots (MQ below (zQq D (zOwn B K0 (B + n0)) r B n' K' I' R') args s 4 100 (zOwn B K0 (B + n0))) (F0 m 105 ls []) := by
  unfold f_X3_flattened_105 at hf
  refine ze_iinc (lv' := [(4, .int (x4 + (1 : Int32))), (0, .ref (B + a0)), (1, zrf B x1), (3, zrf B x3)]) (d := 1) X.1 X.2.1 dX3_flattened_105 hl (k := 3) rfl (by decide) (by decide) (by first | rfl | (simp [zcat, zcat_i, zcat_r, zcat_l, zrf_some]; done) | (simp [zcat, zcat_i, zcat_r, zcat_l, zrf_some]; decide)) (fun ls hk => ?_)
  replace hl := hk
  refine lv_goto (tgt := 61) X.1 X.2.1 dX3_flattened_108 (by decide) ?_
  exact hk61 _ _ _ _ _ _ _ _ _ _ _ _ hf (by (try dsimp only); omega) (by (try dsimp only); omega) hW (lv_sub hl [1, 2, 3, 0] rfl)
set_option maxRecDepth 100000 in
set_option maxHeartbeats 4000000 in
theorem wg_X3_flattened_61 {F : Nat} {a0 : Nat}  (X : zX p s m c cX3_flattened 5 RX3 D) (hr : meth.sig.returnType = some (.object "LeastPatterns$Term")) (hlk : meth.locks = false)  {kself : Nat → zK → zI → zR → Option Nat → Option Nat → Int32 → Option (Option Nat × Nat × zK × zI × zR)} (hkself : ∀ (n : Nat) (K : zK) (I : zI) (R : zR) (x1 : Option Nat) (x3 : Option Nat) (x4 : Int32) (cells slots : Nat) (H : Heap) (locs : List Loc) (ls : Array Slot), kself n K I R x1 x3 x4 = some (r, n', K', I', R') → cells + 0 ≤ 4 → slots + 0 ≤ 100 → zS (zOwn B K0 (B + n0)) D B n K I R s.heap H locs → lv_has ls 5 [(0, .ref (B + a0)), (1, zrf B x1), (3, zrf B x3), (4, .int x4)] → W p l e ({ frames := 3, cells := 4, slots := 100, locals := 89 } : Room) s m args below meth c H locs cells slots (MQ below (zQq D (zOwn B K0 (B + n0)) r B n' K' I' R') args s 4 100 (zOwn B K0 (B + n0))) (F0 m 61 ls [])) {x1 : Option Nat} {x3 : Option Nat} {x4 : Int32} {cells slots : Nat} (hf : g_X3_flattened_61 F a0  kself n K I R x1 x3 x4 = some (r, n', K', I', R')) (b1 : cells + 0 ≤ 4) (b2 : slots + 0 ≤ 100) (hW : zS (zOwn B K0 (B + n0)) D B n K I R s.heap H locs) (hl : lv_has ls 5 [(0, .ref (B + a0)), (1, zrf B x1), (3, zrf B x3), (4, .int x4)]) : W p l e ({ frames := 3, cells := 4, slots := 100, locals := 89 } : Room) s m args below meth c H locs cells slots (MQ below (zQq D (zOwn B K0 (B + n0)) r B n' K' I' R') args s 4 100 (zOwn B K0 (B + n0))) (F0 m 61 ls []) := by
  unfold g_X3_flattened_61 at hf
  refine lv_iload X.1 X.2.1 dX3_flattened_61 (lv_at hl 3 rfl) ?_
  refine ze_aload_n X.1 X.2.1 dX3_flattened_63 rfl (lv_at hl 1 rfl) ?_
  obtain ⟨a6, rfl, k8, hg⟩ := zh_dr hf
  replace hf := hg
  refine ze_getIN X 5 3 28 (RX5, TX5, 4) rfl hW k8 rfl (by decide) kfl_X3_28 dX3_flattened_64 ?_
  refine lv_icmp_ge (tgt := 111) X.1 X.2.1 dX3_flattened_67 (by decide) (fun c9 => ?_) (fun c9 => ?_)
  · replace hf := zif_pos c9 hf
    exact w_X3_flattened_111 X hr hlk hf (by (try dsimp only); omega) (by (try dsimp only); omega) hW (lv_sub hl [0, 2] rfl)
  · replace hf := zif_neg c9 hf
    refine lv_iload X.1 X.2.1 dX3_flattened_70 (lv_at hl 3 rfl) ?_
    refine lv_bipush (v := 32) X.1 X.2.1 dX3_flattened_72 (by decide) ?_
    refine lv_icmp_ge (tgt := 111) X.1 X.2.1 dX3_flattened_74 (by decide) (fun c10 => ?_) (fun c10 => ?_)
    · replace hf := zif_pos c10 hf
      exact w_X3_flattened_111 X hr hlk hf (by (try dsimp only); omega) (by (try dsimp only); omega) hW (lv_sub hl [0, 2] rfl)
    · replace hf := zif_neg c10 hf
      refine lv_aload_n X.1 X.2.1 dX3_flattened_77 rfl (lv_at hl 0 rfl) ?_
      obtain ⟨k11, hg⟩ := zh_if hf
      replace hf := hg
      refine ze_gtR X 3 0 9 (RX3, TX3, 5) rfl hf hW k11 rfl (by decide) kfl_X3_9 dX3_flattened_78 (fun o12 hg => ?_)
      replace hf := hg
      refine lv_iload X.1 X.2.1 dX3_flattened_81 (lv_at hl 3 rfl) ?_
      obtain ⟨a13, rfl, k15, hg⟩ := zh_dr hf
      replace hf := hg
      refine ze_zald X hf hW k15 dX3_flattened_83 (fun v16 hg => ?_)
      replace hf := hg
      refine lv_if_ne (tgt := 105) X.1 X.2.1 dX3_flattened_84 (by decide) (fun c17 => ?_) (fun c17 => ?_)
      · replace hf := zif_neg c17 hf
        exact w_X3_flattened_105 X hr hlk hkself hf (by (try dsimp only); omega) (by (try dsimp only); omega) hW hl
      · replace hf := zif_pos c17 hf
        refine ze_aload_n X.1 X.2.1 dX3_flattened_87 rfl (lv_at hl 2 rfl) ?_
        refine lv_aload_n X.1 X.2.1 dX3_flattened_88 rfl (lv_at hl 1 rfl) ?_
        refine lv_iload X.1 X.2.1 dX3_flattened_89 (lv_at hl 3 rfl) ?_
        obtain ⟨v18, h19, hg⟩ := zh_bd hf
        replace hf := hg
        refine ze_aftI0 (ze_runV (As := [.int x4]) (rest := [zrf B x3]) X 5 39 (c_X5_headOf l D B n k8 h19) vX5_headOf kml_X3_39 hW k8 rfl rfl ⟨by decide, by decide⟩ rfl hl.1 rfl (by simp [zcat, zcat_i, zcat_r, zcat_l]) ⟨by show _ + 0 ≤ (4 : Nat); (try dsimp only); omega, by show _ + 0 ≤ (100 : Nat); (try dsimp only); omega⟩ dX3_flattened_91) hW (fun H locs hV => ?_)
        replace hW := hV
        refine lv_aload_n X.1 X.2.1 dX3_flattened_94 rfl (lv_at hl 0 rfl) ?_
        refine ze_gtR X 3 1 15 (RX3, TX3, 5) rfl hf hW k11 rfl (by decide) kfl_X3_15 dX3_flattened_95 (fun o20 hg => ?_)
        replace hf := hg
        refine lv_iload X.1 X.2.1 dX3_flattened_98 (lv_at hl 3 rfl) ?_
        obtain ⟨a21, rfl, k23, hg⟩ := zh_dr hf
        replace hf := hg
        refine ze_iald X hf hW k23 dX3_flattened_100 (fun v24 hg => ?_)
        replace hf := hg
        obtain ⟨a25, rfl, k27, hg⟩ := zh_dr hf
        replace hf := hg
        obtain ⟨v28, I29, h30, hg⟩ := zh_bd2 hf
        replace hf := hg
        refine ze_aftI0 (ze_runV (As := [.int v18, .int v24]) (rest := []) X 5 43 (c_X5_append l D B n k27 h30) vX5_append kml_X3_43 hW k27 rfl rfl ⟨by decide, by decide⟩ rfl hl.1 rfl (Nat.le_of_ble_eq_true rfl) ⟨by show _ + 0 ≤ (4 : Nat); (try dsimp only); omega, by show _ + 0 ≤ (100 : Nat); (try dsimp only); omega⟩ dX3_flattened_101) hW (fun H locs hV => ?_)
        replace hW := hV
        refine lv_pop X.1 X.2.1 dX3_flattened_104 rfl ?_
        exact w_X3_flattened_105 X hr hlk hkself hf (by (try dsimp only); omega) (by (try dsimp only); omega) hW hl
set_option maxRecDepth 100000 in
set_option maxHeartbeats 4000000 in
theorem w_X3_flattened_61 {F : Nat} {a0 : Nat}  (X : zX p s m c cX3_flattened 5 RX3 D) (hr : meth.sig.returnType = some (.object "LeastPatterns$Term")) (hlk : meth.locks = false)  {t : Nat} {x1 : Option Nat} {x3 : Option Nat} {x4 : Int32} {cells slots : Nat} (hf : f_X3_flattened_61 F a0  t n K I R x1 x3 x4 = some (r, n', K', I', R')) (b1 : cells + 0 ≤ 4) (b2 : slots + 0 ≤ 100) (hW : zS (zOwn B K0 (B + n0)) D B n K I R s.heap H locs) (hl : lv_has ls 5 [(0, .ref (B + a0)), (1, zrf B x1), (3, zrf B x3), (4, .int x4)]) : W p l e ({ frames := 3, cells := 4, slots := 100, locals := 89 } : Room) s m args below meth c H locs cells slots (MQ below (zQq D (zOwn B K0 (B + n0)) r B n' K' I' R') args s 4 100 (zOwn B K0 (B + n0))) (F0 m 61 ls []) := by
  have key : ∀ t : Nat, ∀ (n : Nat) (K : zK) (I : zI) (R : zR) (x1 : Option Nat) (x3 : Option Nat) (x4 : Int32) (cells slots : Nat) (H : Heap) (locs : List Loc) (ls : Array Slot), f_X3_flattened_61 F a0  t n K I R x1 x3 x4 = some (r, n', K', I', R') → cells + 0 ≤ 4 → slots + 0 ≤ 100 → zS (zOwn B K0 (B + n0)) D B n K I R s.heap H locs → lv_has ls 5 [(0, .ref (B + a0)), (1, zrf B x1), (3, zrf B x3), (4, .int x4)] → W p l e ({ frames := 3, cells := 4, slots := 100, locals := 89 } : Room) s m args below meth c H locs cells slots (MQ below (zQq D (zOwn B K0 (B + n0)) r B n' K' I' R') args s 4 100 (zOwn B K0 (B + n0))) (F0 m 61 ls []) := by
    intro t
    induction t with
    | zero =>
      intro n K I R x1 x3 x4 cells slots H locs ls hf b1 b2 hW hl
      cases hf
    | succ t ih =>
      intro n K I R x1 x3 x4 cells slots H locs ls hf b1 b2 hW hl
      exact wg_X3_flattened_61 X hr hlk  ih hf b1 b2 hW hl
  exact key t _ _ _ _ _ _ _ _ _ _ _ _ hf b1 b2 hW hl
set_option maxRecDepth 100000 in
set_option maxHeartbeats 4000000 in
theorem wg_X3_flattened_28 {F : Nat} {a0 : Nat}  (X : zX p s m c cX3_flattened 5 RX3 D) (hr : meth.sig.returnType = some (.object "LeastPatterns$Term")) (hlk : meth.locks = false)  {kself : Nat → zK → zI → zR → Option Nat → Int32 → Int32 → Option (Option Nat × Nat × zK × zI × zR)} (hkself : ∀ (n : Nat) (K : zK) (I : zI) (R : zR) (x1 : Option Nat) (x2 : Int32) (x3 : Int32) (cells slots : Nat) (H : Heap) (locs : List Loc) (ls : Array Slot), kself n K I R x1 x2 x3 = some (r, n', K', I', R') → cells + 4 ≤ 4 → slots + 100 ≤ 100 → zS (zOwn B K0 (B + n0)) D B n K I R s.heap H locs → lv_has ls 5 [(0, .ref (B + a0)), (1, zrf B x1), (2, .int x2), (3, .int x3)] → W p l e ({ frames := 3, cells := 4, slots := 100, locals := 89 } : Room) s m args below meth c H locs cells slots (MQ below (zQq D (zOwn B K0 (B + n0)) r B n' K' I' R') args s 4 100 (zOwn B K0 (B + n0))) (F0 m 28 ls [])) {x1 : Option Nat} {x2 : Int32} {x3 : Int32} {cells slots : Nat} (hf : g_X3_flattened_28 F a0  kself n K I R x1 x2 x3 = some (r, n', K', I', R')) (b1 : cells + 4 ≤ 4) (b2 : slots + 100 ≤ 100) (hW : zS (zOwn B K0 (B + n0)) D B n K I R s.heap H locs) (hl : lv_has ls 5 [(0, .ref (B + a0)), (1, zrf B x1), (2, .int x2), (3, .int x3)]) : W p l e ({ frames := 3, cells := 4, slots := 100, locals := 89 } : Room) s m args below meth c H locs cells slots (MQ below (zQq D (zOwn B K0 (B + n0)) r B n' K' I' R') args s 4 100 (zOwn B K0 (B + n0))) (F0 m 28 ls []) := by
  unfold g_X3_flattened_28 at hf
  refine lv_iload_n X.1 X.2.1 dX3_flattened_28 rfl (lv_at hl 3 rfl) ?_
  refine lv_if_lt (tgt := 50) X.1 X.2.1 dX3_flattened_29 (by decide) (fun c31 => ?_) (fun c31 => ?_)
  · replace hf := zif_pos c31 hf
    refine ze_nw X 5 29 (RX5, TX5, 4) hf rfl kcx_X3_29 kci_X5 kit_X5 hW (by show _ ≤ (4 : Nat); (try dsimp only); omega) (by show _ ≤ (100 : Nat); (try dsimp only); omega) dX3_flattened_50 (fun n32 K33 I34 R35 H hg hV => ?_)
    replace hf := hg
    replace hW := hV
    refine lv_dup X.1 X.2.1 dX3_flattened_53 rfl ?_
    obtain ⟨n36, K37, I38, R39, h40, hg⟩ := zh_bd4 hf
    replace hf := hg
    refine ze_aftV (ze_runIN (b := n) (As := []) (rest := [.ref (B + n)]) X 38 (c_X5_init l D B n32 h40) vX5_init kml_X3_38 hW ⟨by decide, by decide⟩ rfl hl.1 rfl (Nat.le_of_ble_eq_true rfl) ⟨by show _ + 3 ≤ (4 : Nat); (try dsimp only); omega, by show _ + 96 ≤ (100 : Nat); (try dsimp only); omega⟩ dX3_flattened_54) hW (fun H locs hV => ?_)
    replace hW := hV
    refine lv_astore_n (i := 3) (lv' := [(3, .ref (B + n)), (0, .ref (B + a0)), (1, zrf B x1), (2, .int x2)]) X.1 X.2.1 dX3_flattened_57 rfl hl (by decide) rfl (fun ls hk => ?_)
    replace hl := hk
    refine lv_iconst (v := 0) X.1 X.2.1 dX3_flattened_58 (by decide) ?_
    refine lv_istore (lv' := [(4, .int (0 : Int32)), (3, .ref (B + n)), (0, .ref (B + a0)), (1, zrf B x1), (2, .int x2)]) X.1 X.2.1 dX3_flattened_59 hl (by decide) rfl (fun ls hk => ?_)
    replace hl := hk
    exact w_X3_flattened_61 X hr hlk hf (by (try dsimp only); omega) (by (try dsimp only); omega) hW (lv_sub hl [2, 3, 1, 0] rfl)
  · replace hf := zif_neg c31 hf
    refine lv_aload_n X.1 X.2.1 dX3_flattened_32 rfl (lv_at hl 0 rfl) ?_
    refine ze_aload_n X.1 X.2.1 dX3_flattened_33 rfl (lv_at hl 1 rfl) ?_
    refine lv_iload_n X.1 X.2.1 dX3_flattened_34 rfl (lv_at hl 3 rfl) ?_
    refine lv_iload_n X.1 X.2.1 dX3_flattened_35 rfl (lv_at hl 2 rfl) ?_
    obtain ⟨k41, hg⟩ := zh_if hf
    replace hf := hg
    obtain ⟨v42, I43, h44, hg⟩ := zh_bd2 hf
    replace hf := hg
    refine ze_aftI0 (ze_runV (As := [zrf B x1, .int x3, .int x2]) (rest := []) X 3 34 (c_X3_countArguments l D B n k41 h44) vX3_countArguments kml_X3_34 hW k41 rfl rfl ⟨by decide, by decide⟩ rfl hl.1 rfl (Nat.le_of_ble_eq_true rfl) ⟨by show _ + 0 ≤ (4 : Nat); (try dsimp only); omega, by show _ + 0 ≤ (100 : Nat); (try dsimp only); omega⟩ dX3_flattened_36) hW (fun H locs hV => ?_)
    replace hW := hV
    refine lv_if_ne (tgt := 44) X.1 X.2.1 dX3_flattened_39 (by decide) (fun c45 => ?_) (fun c45 => ?_)
    · replace hf := zif_neg c45 hf
      refine ze_iinc (lv' := [(3, .int (x3 + (-1 : Int32))), (0, .ref (B + a0)), (1, zrf B x1), (2, .int x2)]) (d := -1) X.1 X.2.1 dX3_flattened_44 hl (k := 3) rfl (by decide) (by decide) rfl (fun ls hk => ?_)
      replace hl := hk
      refine lv_goto (tgt := 28) X.1 X.2.1 dX3_flattened_47 (by decide) ?_
      exact hkself _ _ _ _ _ _ _ _ _ _ _ _ hf (by (try dsimp only); omega) (by (try dsimp only); omega) hW (lv_sub hl [1, 2, 3, 0] rfl)
    · replace hf := zif_pos c45 hf
      refine lv_null X.1 X.2.1 dX3_flattened_42 ?_
      obtain ⟨rfl, rfl, rfl, rfl, rfl⟩ := zi5 hf
      exact ze_retQ X hr hlk hW (by (try dsimp only); omega) (by (try dsimp only); omega) dX3_flattened_43
set_option maxRecDepth 100000 in
set_option maxHeartbeats 4000000 in
theorem w_X3_flattened_28 {F : Nat} {a0 : Nat}  (X : zX p s m c cX3_flattened 5 RX3 D) (hr : meth.sig.returnType = some (.object "LeastPatterns$Term")) (hlk : meth.locks = false)  {t : Nat} {x1 : Option Nat} {x2 : Int32} {x3 : Int32} {cells slots : Nat} (hf : f_X3_flattened_28 F a0  t n K I R x1 x2 x3 = some (r, n', K', I', R')) (b1 : cells + 4 ≤ 4) (b2 : slots + 100 ≤ 100) (hW : zS (zOwn B K0 (B + n0)) D B n K I R s.heap H locs) (hl : lv_has ls 5 [(0, .ref (B + a0)), (1, zrf B x1), (2, .int x2), (3, .int x3)]) : W p l e ({ frames := 3, cells := 4, slots := 100, locals := 89 } : Room) s m args below meth c H locs cells slots (MQ below (zQq D (zOwn B K0 (B + n0)) r B n' K' I' R') args s 4 100 (zOwn B K0 (B + n0))) (F0 m 28 ls []) := by
  have key : ∀ t : Nat, ∀ (n : Nat) (K : zK) (I : zI) (R : zR) (x1 : Option Nat) (x2 : Int32) (x3 : Int32) (cells slots : Nat) (H : Heap) (locs : List Loc) (ls : Array Slot), f_X3_flattened_28 F a0  t n K I R x1 x2 x3 = some (r, n', K', I', R') → cells + 4 ≤ 4 → slots + 100 ≤ 100 → zS (zOwn B K0 (B + n0)) D B n K I R s.heap H locs → lv_has ls 5 [(0, .ref (B + a0)), (1, zrf B x1), (2, .int x2), (3, .int x3)] → W p l e ({ frames := 3, cells := 4, slots := 100, locals := 89 } : Room) s m args below meth c H locs cells slots (MQ below (zQq D (zOwn B K0 (B + n0)) r B n' K' I' R') args s 4 100 (zOwn B K0 (B + n0))) (F0 m 28 ls []) := by
    intro t
    induction t with
    | zero =>
      intro n K I R x1 x2 x3 cells slots H locs ls hf b1 b2 hW hl
      cases hf
    | succ t ih =>
      intro n K I R x1 x2 x3 cells slots H locs ls hf b1 b2 hW hl
      exact wg_X3_flattened_28 X hr hlk  ih hf b1 b2 hW hl
  exact key t _ _ _ _ _ _ _ _ _ _ _ _ hf b1 b2 hW hl
set_option maxRecDepth 100000 in
set_option maxHeartbeats 4000000 in
theorem wg_X3_flattened_2 {F : Nat} {a0 : Nat}  (X : zX p s m c cX3_flattened 5 RX3 D) (hr : meth.sig.returnType = some (.object "LeastPatterns$Term")) (hlk : meth.locks = false)  {kself : Nat → zK → zI → zR → Option Nat → Int32 → Int32 → Option (Option Nat × Nat × zK × zI × zR)} (hkself : ∀ (n : Nat) (K : zK) (I : zI) (R : zR) (x1 : Option Nat) (x2 : Int32) (x3 : Int32) (cells slots : Nat) (H : Heap) (locs : List Loc) (ls : Array Slot), kself n K I R x1 x2 x3 = some (r, n', K', I', R') → cells + 4 ≤ 4 → slots + 100 ≤ 100 → zS (zOwn B K0 (B + n0)) D B n K I R s.heap H locs → lv_has ls 5 [(0, .ref (B + a0)), (1, zrf B x1), (2, .int x2), (3, .int x3)] → W p l e ({ frames := 3, cells := 4, slots := 100, locals := 89 } : Room) s m args below meth c H locs cells slots (MQ below (zQq D (zOwn B K0 (B + n0)) r B n' K' I' R') args s 4 100 (zOwn B K0 (B + n0))) (F0 m 2 ls [])) {x1 : Option Nat} {x2 : Int32} {x3 : Int32} {cells slots : Nat} (hf : g_X3_flattened_2 F a0  kself n K I R x1 x2 x3 = some (r, n', K', I', R')) (b1 : cells + 4 ≤ 4) (b2 : slots + 100 ≤ 100) (hW : zS (zOwn B K0 (B + n0)) D B n K I R s.heap H locs) (hl : lv_has ls 5 [(0, .ref (B + a0)), (1, zrf B x1), (2, .int x2), (3, .int x3)]) : W p l e ({ frames := 3, cells := 4, slots := 100, locals := 89 } : Room) s m args below meth c H locs cells slots (MQ below (zQq D (zOwn B K0 (B + n0)) r B n' K' I' R') args s 4 100 (zOwn B K0 (B + n0))) (F0 m 2 ls []) := by
  unfold g_X3_flattened_2 at hf
  refine lv_iload_n X.1 X.2.1 dX3_flattened_2 rfl (lv_at hl 3 rfl) ?_
  refine lv_bipush (v := 32) X.1 X.2.1 dX3_flattened_3 (by decide) ?_
  refine lv_icmp_ge (tgt := 21) X.1 X.2.1 dX3_flattened_5 (by decide) (fun c46 => ?_) (fun c46 => ?_)
  · replace hf := zif_pos c46 hf
    refine ze_aload_n X.1 X.2.1 dX3_flattened_21 rfl (lv_at hl 1 rfl) ?_
    obtain ⟨a47, rfl, k49, hg⟩ := zh_dr hf
    replace hf := hg
    refine ze_getIN X 5 3 28 (RX5, TX5, 4) rfl hW k49 rfl (by decide) kfl_X3_28 dX3_flattened_22 ?_
    refine lv_iconst (v := 1) X.1 X.2.1 dX3_flattened_25 (by decide) ?_
    refine lv_isub X.1 X.2.1 dX3_flattened_26 ?_
    refine ze_nm hf (fun v50 hg => ?_)
    replace hf := hg
    refine lv_istore_n (i := 3) (lv' := [(3, .int v50), (0, .ref (B + a0)), (1, .ref (B + a47)), (2, .int x2)]) X.1 X.2.1 dX3_flattened_27 rfl hl (by decide) rfl (fun ls hk => ?_)
    replace hl := hk
    exact w_X3_flattened_28 X hr hlk hf (by (try dsimp only); omega) (by (try dsimp only); omega) hW (lv_sub hl [1, 2, 3, 0] rfl)
  · replace hf := zif_neg c46 hf
    refine lv_aload_n X.1 X.2.1 dX3_flattened_8 rfl (lv_at hl 0 rfl) ?_
    obtain ⟨k51, hg⟩ := zh_if hf
    replace hf := hg
    refine ze_gtR X 3 0 9 (RX3, TX3, 5) rfl hf hW k51 rfl (by decide) kfl_X3_9 dX3_flattened_9 (fun o52 hg => ?_)
    replace hf := hg
    refine lv_iload_n X.1 X.2.1 dX3_flattened_12 rfl (lv_at hl 3 rfl) ?_
    refine lv_iconst (v := 0) X.1 X.2.1 dX3_flattened_13 (by decide) ?_
    obtain ⟨a53, rfl, k55, hg⟩ := zh_dr hf
    replace hf := hg
    refine ze_zast X hf hW k55 dX3_flattened_14 (fun I56 H locs hg hV => ?_)
    replace hf := hg
    replace hW := hV
    refine ze_iinc (lv' := [(3, .int (x3 + (1 : Int32))), (0, .ref (B + a0)), (1, zrf B x1), (2, .int x2)]) (d := 1) X.1 X.2.1 dX3_flattened_15 hl (k := 3) rfl (by decide) (by decide) rfl (fun ls hk => ?_)
    replace hl := hk
    refine lv_goto (tgt := 2) X.1 X.2.1 dX3_flattened_18 (by decide) ?_
    exact hkself _ _ _ _ _ _ _ _ _ _ _ _ hf (by (try dsimp only); omega) (by (try dsimp only); omega) hW (lv_sub hl [1, 2, 3, 0] rfl)
set_option maxRecDepth 100000 in
set_option maxHeartbeats 4000000 in
theorem w_X3_flattened_2 {F : Nat} {a0 : Nat}  (X : zX p s m c cX3_flattened 5 RX3 D) (hr : meth.sig.returnType = some (.object "LeastPatterns$Term")) (hlk : meth.locks = false)  {t : Nat} {x1 : Option Nat} {x2 : Int32} {x3 : Int32} {cells slots : Nat} (hf : f_X3_flattened_2 F a0  t n K I R x1 x2 x3 = some (r, n', K', I', R')) (b1 : cells + 4 ≤ 4) (b2 : slots + 100 ≤ 100) (hW : zS (zOwn B K0 (B + n0)) D B n K I R s.heap H locs) (hl : lv_has ls 5 [(0, .ref (B + a0)), (1, zrf B x1), (2, .int x2), (3, .int x3)]) : W p l e ({ frames := 3, cells := 4, slots := 100, locals := 89 } : Room) s m args below meth c H locs cells slots (MQ below (zQq D (zOwn B K0 (B + n0)) r B n' K' I' R') args s 4 100 (zOwn B K0 (B + n0))) (F0 m 2 ls []) := by
  have key : ∀ t : Nat, ∀ (n : Nat) (K : zK) (I : zI) (R : zR) (x1 : Option Nat) (x2 : Int32) (x3 : Int32) (cells slots : Nat) (H : Heap) (locs : List Loc) (ls : Array Slot), f_X3_flattened_2 F a0  t n K I R x1 x2 x3 = some (r, n', K', I', R') → cells + 4 ≤ 4 → slots + 100 ≤ 100 → zS (zOwn B K0 (B + n0)) D B n K I R s.heap H locs → lv_has ls 5 [(0, .ref (B + a0)), (1, zrf B x1), (2, .int x2), (3, .int x3)] → W p l e ({ frames := 3, cells := 4, slots := 100, locals := 89 } : Room) s m args below meth c H locs cells slots (MQ below (zQq D (zOwn B K0 (B + n0)) r B n' K' I' R') args s 4 100 (zOwn B K0 (B + n0))) (F0 m 2 ls []) := by
    intro t
    induction t with
    | zero =>
      intro n K I R x1 x2 x3 cells slots H locs ls hf b1 b2 hW hl
      cases hf
    | succ t ih =>
      intro n K I R x1 x2 x3 cells slots H locs ls hf b1 b2 hW hl
      exact wg_X3_flattened_2 X hr hlk  ih hf b1 b2 hW hl
  exact key t _ _ _ _ _ _ _ _ _ _ _ _ hf b1 b2 hW hl
set_option maxRecDepth 100000 in
set_option maxHeartbeats 4000000 in
theorem c_X3_flattened (l : Launch) (D : zD) (B n : Nat) {F : Nat} {K : zK} {I : zI} {R : zR} {a0 : Nat} {x1 : Option Nat} {x2 : Int32} {r : Option Nat} {n' : Nat} {K' : zK} {I' : zI} {R' : zR} (hf : f_X3_flattened F n K I R a0 x1 x2 = some (r, n', K', I', R')) : zM l yX3_flattened cX3_flattened 5 (some (.object "LeastPatterns$Term")) ({ frames := 3, cells := 4, slots := 100, locals := 89 } : Room) D B n K I R [.ref (B + a0), zrf B x1, .int x2] (zQq D (zOwn B K (B + n)) r B n' K' I' R') := by
  refine ze_entry (lv0 := [(0, .ref (B + a0)), (1, zrf B x1), (2, .int x2)]) (by decide) (by simp [lg_sl, zcat, zcat_i, zcat_r, zcat_l]) (by simp [lv_args, zcat, zcat_i, zcat_r, zcat_l]) (fun p e s m below meth c X hr hlk hin hW ls hl => ?_)
  unfold f_X3_flattened at hf
  have b1 : (0 : Nat) ≤ 0 := Nat.le_refl _
  refine lv_iconst (v := 0) X.1 X.2.1 dX3_flattened_0 (by decide) ?_
  refine lv_istore_n (i := 3) (lv' := [(3, .int (0 : Int32)), (0, .ref (B + a0)), (1, zrf B x1), (2, .int x2)]) X.1 X.2.1 dX3_flattened_1 rfl hl (by decide) rfl (fun ls hk => ?_)
  replace hl := hk
  exact w_X3_flattened_2 X hr hlk hf (by (try dsimp only); omega) (by (try dsimp only); omega) hW (lv_sub hl [1, 2, 3, 0] rfl)
end

/-! LeastPatterns$State.hold(ILLeastPatterns$Term;)V -/
def f_X4_hold (F : Nat) (K : zK) (I : zI) (R : zR) (a0 : Nat) (x1 : Int32) (x2 : Option Nat) : Option (zR) :=
  if x1 < (0 : Int32) then
    some R
  else
    zbd (some (R a0 0)) fun o2 =>
    zbd (zdr K o2 4) fun a3 =>
    if (zln K a3) ≤ x1 then
      some R
    else
      zbd (some (R a0 0)) fun o7 =>
      zbd (zdr K o7 4) fun a8 =>
      zbd (zwrR K R a8 x1 x2 15) fun R11 =>
      some R11
section
variable {p : Program} {l : Launch} {e : Env} {s : State} {m : MethodId} {args : Array Value} {below : List Frame} {meth : Method} {c : Code} {D : zD} {B n n0 n' fd ld : Nat} {K K0 K' : zK} {I I' : zI} {R R' : zR} {H : Heap} {locs : List Loc} {ls : Array Slot} {r : Int32}
set_option maxRecDepth 100000 in
set_option maxHeartbeats 4000000 in
theorem c_X4_hold (l : Launch) (D : zD) (B n : Nat) {F : Nat} {K : zK} {I : zI} {R : zR} {a0 : Nat} {x1 : Int32} {x2 : Option Nat} {R' : zR} (hK0 : (K a0).1 = 14) (hf : f_X4_hold F K I R a0 x1 x2 = some R') : zM l yX4_hold cX4_hold 3 (none) ({ frames := 1, cells := 0, slots := 0, locals := 40 } : Room) D B n K I R [.ref (B + a0), .int x1, zrf B x2] (zQv D (zOwn B K (B + n)) B n K I R') := by
  refine ze_entry (lv0 := [(0, .ref (B + a0)), (1, .int x1), (2, zrf B x2)]) (by decide) (by simp [lg_sl, zcat, zcat_i, zcat_r, zcat_l]) (by simp [lv_args, zcat, zcat_i, zcat_r, zcat_l]) (fun p e s m below meth c X hr hlk hin hW ls hl => ?_)
  unfold f_X4_hold at hf
  refine lv_iload_n X.1 X.2.1 dX4_hold_0 rfl (lv_at hl 1 rfl) ?_
  refine lv_if_lt (tgt := 20) X.1 X.2.1 dX4_hold_1 (by decide) (fun c1 => ?_) (fun c1 => ?_)
  · replace hf := zif_pos c1 hf
    obtain rfl := zi1 hf
    exact ze_retV X hr hlk hW (Nat.le_refl _) (Nat.le_refl _) dX4_hold_20
  · replace hf := zif_neg c1 hf
    refine lv_iload_n X.1 X.2.1 dX4_hold_4 rfl (lv_at hl 1 rfl) ?_
    refine lv_aload_n X.1 X.2.1 dX4_hold_5 rfl (lv_at hl 0 rfl) ?_
    refine ze_gtR X 4 0 11 (RX4, TX4, 2) rfl hf hW hK0 rfl (by decide) kfl_X4_11 dX4_hold_6 (fun o2 hg => ?_)
    replace hf := hg
    obtain ⟨a3, rfl, k5, hg⟩ := zh_dr hf
    replace hf := hg
    refine ze_alen X 4 (by decide) hW k5 dX4_hold_9 ?_
    refine lv_icmp_ge (tgt := 20) X.1 X.2.1 dX4_hold_10 (by decide) (fun c6 => ?_) (fun c6 => ?_)
    · replace hf := zif_pos c6 hf
      obtain rfl := zi1 hf
      exact ze_retV X hr hlk hW (Nat.le_refl _) (Nat.le_refl _) dX4_hold_20
    · replace hf := zif_neg c6 hf
      refine lv_aload_n X.1 X.2.1 dX4_hold_13 rfl (lv_at hl 0 rfl) ?_
      refine ze_gtR X 4 0 11 (RX4, TX4, 2) rfl hf hW hK0 rfl (by decide) kfl_X4_11 dX4_hold_14 (fun o7 hg => ?_)
      replace hf := hg
      refine lv_iload_n X.1 X.2.1 dX4_hold_17 rfl (lv_at hl 1 rfl) ?_
      refine ze_aload_n X.1 X.2.1 dX4_hold_18 rfl (lv_at hl 2 rfl) ?_
      obtain ⟨a8, rfl, k10, hg⟩ := zh_dr hf
      replace hf := hg
      refine ze_aast (x := x2) X 4 (by decide) hf hW k10 dX4_hold_19 (fun R11 H locs hg hV => ?_)
      replace hf := hg
      replace hW := hV
      obtain rfl := zi1 hf
      exact ze_retV X hr hlk hW (Nat.le_refl _) (Nat.le_refl _) dX4_hold_20
end

/-! LeastPatterns$State.setting(I)I -/
def f_X4_setting (F : Nat) (K : zK) (I : zI) (R : zR) (a0 : Nat) (x1 : Int32) : Option (Int32) :=
  if x1 < (0 : Int32) then
    some (0 : Int32)
  else
    zbd (some (R a0 1)) fun o2 =>
    zbd (zdr K o2 1) fun a3 =>
    if (zln K a3) ≤ x1 then
      some (0 : Int32)
    else
      zbd (some (R a0 1)) fun o7 =>
      zbd (zdr K o7 1) fun a8 =>
      zbd (zrd K I a8 x1) fun v11 =>
      some v11
section
variable {p : Program} {l : Launch} {e : Env} {s : State} {m : MethodId} {args : Array Value} {below : List Frame} {meth : Method} {c : Code} {D : zD} {B n n0 n' fd ld : Nat} {K K0 K' : zK} {I I' : zI} {R R' : zR} {H : Heap} {locs : List Loc} {ls : Array Slot} {r : Int32}
set_option maxRecDepth 100000 in
set_option maxHeartbeats 4000000 in
theorem c_X4_setting (l : Launch) (D : zD) (B n : Nat) {F : Nat} {K : zK} {I : zI} {R : zR} {a0 : Nat} {x1 : Int32} {r : Int32} (hK0 : (K a0).1 = 14) (hf : f_X4_setting F K I R a0 x1 = some r) : zM l yX4_setting cX4_setting 2 (some .int) ({ frames := 1, cells := 0, slots := 0, locals := 40 } : Room) D B n K I R [.ref (B + a0), .int x1] (zQi D (zOwn B K (B + n)) r B n K I R) := by
  refine ze_entry (lv0 := [(0, .ref (B + a0)), (1, .int x1)]) (by decide) (by simp [lg_sl, zcat, zcat_i, zcat_r, zcat_l]) (by simp [lv_args, zcat, zcat_i, zcat_r, zcat_l]) (fun p e s m below meth c X hr hlk hin hW ls hl => ?_)
  unfold f_X4_setting at hf
  refine lv_iload_n X.1 X.2.1 dX4_setting_0 rfl (lv_at hl 1 rfl) ?_
  refine lv_if_lt (tgt := 22) X.1 X.2.1 dX4_setting_1 (by decide) (fun c1 => ?_) (fun c1 => ?_)
  · replace hf := zif_pos c1 hf
    refine lv_iconst (v := 0) X.1 X.2.1 dX4_setting_22 (by decide) ?_
    obtain rfl := zi1 hf
    exact ze_retI X hr hlk hW (Nat.le_refl _) (Nat.le_refl _) dX4_setting_23
  · replace hf := zif_neg c1 hf
    refine lv_iload_n X.1 X.2.1 dX4_setting_4 rfl (lv_at hl 1 rfl) ?_
    refine lv_aload_n X.1 X.2.1 dX4_setting_5 rfl (lv_at hl 0 rfl) ?_
    refine ze_gtR X 4 1 17 (RX4, TX4, 2) rfl hf hW hK0 rfl (by decide) kfl_X4_17 dX4_setting_6 (fun o2 hg => ?_)
    replace hf := hg
    obtain ⟨a3, rfl, k5, hg⟩ := zh_dr hf
    replace hf := hg
    refine ze_alen X 1 (by decide) hW k5 dX4_setting_9 ?_
    refine lv_icmp_ge (tgt := 22) X.1 X.2.1 dX4_setting_10 (by decide) (fun c6 => ?_) (fun c6 => ?_)
    · replace hf := zif_pos c6 hf
      refine lv_iconst (v := 0) X.1 X.2.1 dX4_setting_22 (by decide) ?_
      obtain rfl := zi1 hf
      exact ze_retI X hr hlk hW (Nat.le_refl _) (Nat.le_refl _) dX4_setting_23
    · replace hf := zif_neg c6 hf
      refine lv_aload_n X.1 X.2.1 dX4_setting_13 rfl (lv_at hl 0 rfl) ?_
      refine ze_gtR X 4 1 17 (RX4, TX4, 2) rfl hf hW hK0 rfl (by decide) kfl_X4_17 dX4_setting_14 (fun o7 hg => ?_)
      replace hf := hg
      refine lv_iload_n X.1 X.2.1 dX4_setting_17 rfl (lv_at hl 1 rfl) ?_
      obtain ⟨a8, rfl, k10, hg⟩ := zh_dr hf
      replace hf := hg
      refine ze_iald X hf hW k10 dX4_setting_18 (fun v11 hg => ?_)
      replace hf := hg
      refine lv_goto (tgt := 23) X.1 X.2.1 dX4_setting_19 (by decide) ?_
      obtain rfl := zi1 hf
      exact ze_retI X hr hlk hW (Nat.le_refl _) (Nat.le_refl _) dX4_setting_23
end

/-! LeastPatterns.noRegister(I)Z -/
def f_X6_noRegister (F : Nat) (K : zK) (I : zI) (R : zR) (x0 : Int32) : Option (Int32) :=
  zbd (f_X6_outside F K I R x0 (7 : Int32)) fun v1 =>
  if v1 = 0 ∨ v1 = 1 then
  some v1
  else
  none
section
variable {p : Program} {l : Launch} {e : Env} {s : State} {m : MethodId} {args : Array Value} {below : List Frame} {meth : Method} {c : Code} {D : zD} {B n n0 n' fd ld : Nat} {K K0 K' : zK} {I I' : zI} {R R' : zR} {H : Heap} {locs : List Loc} {ls : Array Slot} {r : Int32}
set_option maxRecDepth 100000 in
set_option maxHeartbeats 4000000 in
theorem c_X6_noRegister (l : Launch) (D : zD) (B n : Nat) {F : Nat} {K : zK} {I : zI} {R : zR} {x0 : Int32} {r : Int32} (hf : f_X6_noRegister F K I R x0 = some r) : zM l yX6_noRegister cX6_noRegister 1 (some .boolean) ({ frames := 2, cells := 0, slots := 0, locals := 61 } : Room) D B n K I R [.int x0] (zQi D (zOwn B K (B + n)) r B n K I R) := by
  refine ze_entry (lv0 := [(0, .int x0)]) (by decide) (by simp [lg_sl, zcat, zcat_i, zcat_r, zcat_l]) (by simp [lv_args, zcat, zcat_i, zcat_r, zcat_l]) (fun p e s m below meth c X hr hlk hin hW ls hl => ?_)
  unfold f_X6_noRegister at hf
  refine lv_iload_n X.1 X.2.1 dX6_noRegister_0 rfl (lv_at hl 0 rfl) ?_
  refine lv_bipush (v := 7) X.1 X.2.1 dX6_noRegister_1 (by decide) ?_
  obtain ⟨v1, h2, hg⟩ := zh_bd hf
  replace hf := hg
  refine ze_aftI0 (ze_runS (As := [.int x0, .int (7 : Int32)]) (rest := []) X 65 (c_X6_outside l D B n h2) vX6_outside kml_X6_65 hW ⟨by decide, by decide⟩ rfl hl.1 rfl (Nat.le_of_ble_eq_true rfl) ⟨Nat.le_refl _, Nat.le_refl _⟩ dX6_noRegister_3) hW (fun H locs hV => ?_)
  replace hW := hV
  obtain ⟨hv3, hg⟩ := zh_if hf
  replace hf := hg
  obtain rfl := zi1 hf
  exact ze_retZ X hr hlk hv3 hW (Nat.le_refl _) (Nat.le_refl _) dX6_noRegister_6
end

/-! LeastPatterns$State.term(I)LLeastPatterns$Term; -/
def f_X4_term (F : Nat) (K : zK) (I : zI) (R : zR) (a0 : Nat) (x1 : Int32) : Option (Option Nat) :=
  if x1 < (0 : Int32) then
    some none
  else
    zbd (some (R a0 0)) fun o2 =>
    zbd (zdr K o2 4) fun a3 =>
    if (zln K a3) ≤ x1 then
      some none
    else
      zbd (some (R a0 0)) fun o7 =>
      zbd (zdr K o7 4) fun a8 =>
      zbd (zrdR K R a8 x1) fun o11 =>
      some o11
section
variable {p : Program} {l : Launch} {e : Env} {s : State} {m : MethodId} {args : Array Value} {below : List Frame} {meth : Method} {c : Code} {D : zD} {B n n0 n' fd ld : Nat} {K K0 K' : zK} {I I' : zI} {R R' : zR} {H : Heap} {locs : List Loc} {ls : Array Slot} {r : Option Nat}
set_option maxRecDepth 100000 in
set_option maxHeartbeats 4000000 in
theorem c_X4_term (l : Launch) (D : zD) (B n : Nat) {F : Nat} {K : zK} {I : zI} {R : zR} {a0 : Nat} {x1 : Int32} {r : Option Nat} (hK0 : (K a0).1 = 14) (hf : f_X4_term F K I R a0 x1 = some r) : zM l yX4_term cX4_term 2 (some (.object "LeastPatterns$Term")) ({ frames := 1, cells := 0, slots := 0, locals := 40 } : Room) D B n K I R [.ref (B + a0), .int x1] (zQq D (zOwn B K (B + n)) r B n K I R) := by
  refine ze_entry (lv0 := [(0, .ref (B + a0)), (1, .int x1)]) (by decide) (by simp [lg_sl, zcat, zcat_i, zcat_r, zcat_l]) (by simp [lv_args, zcat, zcat_i, zcat_r, zcat_l]) (fun p e s m below meth c X hr hlk hin hW ls hl => ?_)
  unfold f_X4_term at hf
  refine lv_iload_n X.1 X.2.1 dX4_term_0 rfl (lv_at hl 1 rfl) ?_
  refine lv_if_lt (tgt := 22) X.1 X.2.1 dX4_term_1 (by decide) (fun c1 => ?_) (fun c1 => ?_)
  · replace hf := zif_pos c1 hf
    refine lv_null X.1 X.2.1 dX4_term_22 ?_
    obtain rfl := zi1 hf
    exact ze_retQ X hr hlk hW (Nat.le_refl _) (Nat.le_refl _) dX4_term_23
  · replace hf := zif_neg c1 hf
    refine lv_iload_n X.1 X.2.1 dX4_term_4 rfl (lv_at hl 1 rfl) ?_
    refine lv_aload_n X.1 X.2.1 dX4_term_5 rfl (lv_at hl 0 rfl) ?_
    refine ze_gtR X 4 0 11 (RX4, TX4, 2) rfl hf hW hK0 rfl (by decide) kfl_X4_11 dX4_term_6 (fun o2 hg => ?_)
    replace hf := hg
    obtain ⟨a3, rfl, k5, hg⟩ := zh_dr hf
    replace hf := hg
    refine ze_alen X 4 (by decide) hW k5 dX4_term_9 ?_
    refine lv_icmp_ge (tgt := 22) X.1 X.2.1 dX4_term_10 (by decide) (fun c6 => ?_) (fun c6 => ?_)
    · replace hf := zif_pos c6 hf
      refine lv_null X.1 X.2.1 dX4_term_22 ?_
      obtain rfl := zi1 hf
      exact ze_retQ X hr hlk hW (Nat.le_refl _) (Nat.le_refl _) dX4_term_23
    · replace hf := zif_neg c6 hf
      refine lv_aload_n X.1 X.2.1 dX4_term_13 rfl (lv_at hl 0 rfl) ?_
      refine ze_gtR X 4 0 11 (RX4, TX4, 2) rfl hf hW hK0 rfl (by decide) kfl_X4_11 dX4_term_14 (fun o7 hg => ?_)
      replace hf := hg
      refine lv_iload_n X.1 X.2.1 dX4_term_17 rfl (lv_at hl 1 rfl) ?_
      obtain ⟨a8, rfl, k10, hg⟩ := zh_dr hf
      replace hf := hg
      refine ze_aald X 4 (by decide) hf hW k10 dX4_term_18 (fun o11 hg => ?_)
      replace hf := hg
      refine lv_goto (tgt := 23) X.1 X.2.1 dX4_term_19 (by decide) ?_
      obtain rfl := zi1 hf
      exact ze_retQ X hr hlk hW (Nat.le_refl _) (Nat.le_refl _) dX4_term_23
end

/-! LeastPatterns$State.copyFrom(LLeastPatterns$State;)V -/
def g_X4_copyFrom_30 (F : Nat) (K : zK) (a0 : Nat)  (kself : zI → zR → Option Nat → Int32 → Option (zI × zR)) (I : zI) (R : zR) (x1 : Option Nat) (x2 : Int32) : Option (zI × zR) :=
  zbd (some (R a0 1)) fun o1 =>
  zbd (zdr K o1 1) fun a2 =>
  if (zln K a2) ≤ x2 then
    some (I, R)
  else
    zbd (some (R a0 1)) fun o6 =>
    zbd (zdr K x1 14) fun a7 =>
    zbd (f_X4_setting F K I R a7 x2) fun v10 =>
    zbd (zdr K o6 1) fun a12 =>
    zbd (zwr K I a12 x2 v10) fun I15 =>
    kself I15 R (some a7) (x2 + (1 : Int32))
def f_X4_copyFrom_30 (F : Nat) (K : zK) (a0 : Nat)  : Nat → zI → zR → Option Nat → Int32 → Option (zI × zR)
  | 0, _, _, _, _ => none
  | t + 1, I, R, x1, x2 => g_X4_copyFrom_30 F K a0  (f_X4_copyFrom_30 F K a0  t) I R x1 x2
def g_X4_copyFrom_2 (F : Nat) (K : zK) (a0 : Nat)  (kself : zI → zR → Option Nat → Int32 → Option (zI × zR)) (I : zI) (R : zR) (x1 : Option Nat) (x2 : Int32) : Option (zI × zR) :=
  zbd (some (R a0 0)) fun o16 =>
  zbd (zdr K o16 4) fun a17 =>
  if (zln K a17) ≤ x2 then
    f_X4_copyFrom_30 F K a0 F I R x1 (0 : Int32)
  else
    zbd (some (R a0 0)) fun o21 =>
    zbd (zdr K x1 14) fun a22 =>
    zbd (f_X4_term F K I R a22 x2) fun o25 =>
    zbd (zdr K o21 4) fun a27 =>
    zbd (zwrR K R a27 x2 o25 15) fun R30 =>
    kself I R30 (some a22) (x2 + (1 : Int32))
def f_X4_copyFrom_2 (F : Nat) (K : zK) (a0 : Nat)  : Nat → zI → zR → Option Nat → Int32 → Option (zI × zR)
  | 0, _, _, _, _ => none
  | t + 1, I, R, x1, x2 => g_X4_copyFrom_2 F K a0  (f_X4_copyFrom_2 F K a0  t) I R x1 x2
def f_X4_copyFrom (F : Nat) (K : zK) (I : zI) (R : zR) (a0 : Nat) (x1 : Option Nat) : Option (zI × zR) :=
  f_X4_copyFrom_2 F K a0 F I R x1 (0 : Int32)
section
variable {p : Program} {l : Launch} {e : Env} {s : State} {m : MethodId} {args : Array Value} {below : List Frame} {meth : Method} {c : Code} {D : zD} {B n n0 n' fd ld : Nat} {K K0 K' : zK} {I I' : zI} {R R' : zR} {H : Heap} {locs : List Loc} {ls : Array Slot} {r : Int32}
set_option maxRecDepth 100000 in
set_option maxHeartbeats 4000000 in
theorem wg_X4_copyFrom_30 {F : Nat} {a0 : Nat}  (X : zX p s m c cX4_copyFrom 3 RX4 D) (hr : meth.sig.returnType = none) (hlk : meth.locks = false) (hK0 : (K a0).1 = 14)  {kself : zI → zR → Option Nat → Int32 → Option (zI × zR)} (hkself : ∀ (I : zI) (R : zR) (x1 : Option Nat) (x2 : Int32) (H : Heap) (locs : List Loc) (ls : Array Slot), kself I R x1 x2 = some (I', R') → zS (zOwn B K (B + n)) D B n K I R s.heap H locs → lv_has ls 3 [(0, .ref (B + a0)), (1, zrf B x1), (2, .int x2)] → W p l e ({ frames := 2, cells := 0, slots := 0, locals := 61 } : Room) s m args below meth c H locs 0 0 (MQ below (zQv D (zOwn B K (B + n)) B n K I' R') args s 0 0 (zOwn B K (B + n))) (F0 m 30 ls [])) {x1 : Option Nat} {x2 : Int32} (hf : g_X4_copyFrom_30 F K a0  kself I R x1 x2 = some (I', R')) (hW : zS (zOwn B K (B + n)) D B n K I R s.heap H locs) (hl : lv_has ls 3 [(0, .ref (B + a0)), (1, zrf B x1), (2, .int x2)]) : W p l e ({ frames := 2, cells := 0, slots := 0, locals := 61 } : Room) s m args below meth c H locs 0 0 (MQ below (zQv D (zOwn B K (B + n)) B n K I' R') args s 0 0 (zOwn B K (B + n))) (F0 m 30 ls []) := by
  unfold g_X4_copyFrom_30 at hf
  refine lv_iload_n X.1 X.2.1 dX4_copyFrom_30 rfl (lv_at hl 2 rfl) ?_
  refine lv_aload_n X.1 X.2.1 dX4_copyFrom_31 rfl (lv_at hl 0 rfl) ?_
  refine ze_gtR X 4 1 17 (RX4, TX4, 2) rfl hf hW hK0 rfl (by decide) kfl_X4_17 dX4_copyFrom_32 (fun o1 hg => ?_)
  replace hf := hg
  obtain ⟨a2, rfl, k4, hg⟩ := zh_dr hf
  replace hf := hg
  refine ze_alen X 1 (by decide) hW k4 dX4_copyFrom_35 ?_
  refine lv_icmp_ge (tgt := 56) X.1 X.2.1 dX4_copyFrom_36 (by decide) (fun c5 => ?_) (fun c5 => ?_)
  · replace hf := zif_pos c5 hf
    obtain ⟨rfl, rfl⟩ := zi2 hf
    exact ze_retV X hr hlk hW (Nat.le_refl _) (Nat.le_refl _) dX4_copyFrom_56
  · replace hf := zif_neg c5 hf
    refine lv_aload_n X.1 X.2.1 dX4_copyFrom_39 rfl (lv_at hl 0 rfl) ?_
    refine ze_gtR X 4 1 17 (RX4, TX4, 2) rfl hf hW hK0 rfl (by decide) kfl_X4_17 dX4_copyFrom_40 (fun o6 hg => ?_)
    replace hf := hg
    refine lv_iload_n X.1 X.2.1 dX4_copyFrom_43 rfl (lv_at hl 2 rfl) ?_
    refine ze_aload_n X.1 X.2.1 dX4_copyFrom_44 rfl (lv_at hl 1 rfl) ?_
    refine lv_iload_n X.1 X.2.1 dX4_copyFrom_45 rfl (lv_at hl 2 rfl) ?_
    obtain ⟨a7, rfl, k9, hg⟩ := zh_dr hf
    replace hf := hg
    obtain ⟨v10, h11, hg⟩ := zh_bd hf
    replace hf := hg
    refine ze_aftI0 (ze_runV (As := [.int x2]) (rest := [.int x2, zrf B o6]) X 4 29 (c_X4_setting l D B n k9 h11) vX4_setting kml_X4_29 hW k9 rfl rfl ⟨by decide, by decide⟩ rfl hl.1 rfl (by simp [zcat, zcat_i, zcat_r, zcat_l]) ⟨Nat.le_refl _, Nat.le_refl _⟩ dX4_copyFrom_46) hW (fun H locs hV => ?_)
    replace hW := hV
    obtain ⟨a12, rfl, k14, hg⟩ := zh_dr hf
    replace hf := hg
    refine ze_iast X hf hW k14 dX4_copyFrom_49 (fun I15 H locs hg hV => ?_)
    replace hf := hg
    replace hW := hV
    refine ze_iinc (lv' := [(2, .int (x2 + (1 : Int32))), (0, .ref (B + a0)), (1, .ref (B + a7))]) (d := 1) X.1 X.2.1 dX4_copyFrom_50 hl (k := 2) rfl (by decide) (by decide) rfl (fun ls hk => ?_)
    replace hl := hk
    refine lv_goto (tgt := 30) X.1 X.2.1 dX4_copyFrom_53 (by decide) ?_
    exact hkself _ _ _ _ _ _ _ hf hW (lv_sub hl [1, 2, 0] rfl)
set_option maxRecDepth 100000 in
set_option maxHeartbeats 4000000 in
theorem w_X4_copyFrom_30 {F : Nat} {a0 : Nat}  (X : zX p s m c cX4_copyFrom 3 RX4 D) (hr : meth.sig.returnType = none) (hlk : meth.locks = false) (hK0 : (K a0).1 = 14)  {t : Nat} {x1 : Option Nat} {x2 : Int32} (hf : f_X4_copyFrom_30 F K a0  t I R x1 x2 = some (I', R')) (hW : zS (zOwn B K (B + n)) D B n K I R s.heap H locs) (hl : lv_has ls 3 [(0, .ref (B + a0)), (1, zrf B x1), (2, .int x2)]) : W p l e ({ frames := 2, cells := 0, slots := 0, locals := 61 } : Room) s m args below meth c H locs 0 0 (MQ below (zQv D (zOwn B K (B + n)) B n K I' R') args s 0 0 (zOwn B K (B + n))) (F0 m 30 ls []) := by
  have key : ∀ t : Nat, ∀ (I : zI) (R : zR) (x1 : Option Nat) (x2 : Int32) (H : Heap) (locs : List Loc) (ls : Array Slot), f_X4_copyFrom_30 F K a0  t I R x1 x2 = some (I', R') → zS (zOwn B K (B + n)) D B n K I R s.heap H locs → lv_has ls 3 [(0, .ref (B + a0)), (1, zrf B x1), (2, .int x2)] → W p l e ({ frames := 2, cells := 0, slots := 0, locals := 61 } : Room) s m args below meth c H locs 0 0 (MQ below (zQv D (zOwn B K (B + n)) B n K I' R') args s 0 0 (zOwn B K (B + n))) (F0 m 30 ls []) := by
    intro t
    induction t with
    | zero =>
      intro I R x1 x2 H locs ls hf hW hl
      cases hf
    | succ t ih =>
      intro I R x1 x2 H locs ls hf hW hl
      exact wg_X4_copyFrom_30 X hr hlk hK0  ih hf hW hl
  exact key t _ _ _ _ _ _ _ hf hW hl
set_option maxRecDepth 100000 in
set_option maxHeartbeats 4000000 in
theorem wg_X4_copyFrom_2 {F : Nat} {a0 : Nat}  (X : zX p s m c cX4_copyFrom 3 RX4 D) (hr : meth.sig.returnType = none) (hlk : meth.locks = false) (hK0 : (K a0).1 = 14)  {kself : zI → zR → Option Nat → Int32 → Option (zI × zR)} (hkself : ∀ (I : zI) (R : zR) (x1 : Option Nat) (x2 : Int32) (H : Heap) (locs : List Loc) (ls : Array Slot), kself I R x1 x2 = some (I', R') → zS (zOwn B K (B + n)) D B n K I R s.heap H locs → lv_has ls 3 [(0, .ref (B + a0)), (1, zrf B x1), (2, .int x2)] → W p l e ({ frames := 2, cells := 0, slots := 0, locals := 61 } : Room) s m args below meth c H locs 0 0 (MQ below (zQv D (zOwn B K (B + n)) B n K I' R') args s 0 0 (zOwn B K (B + n))) (F0 m 2 ls [])) {x1 : Option Nat} {x2 : Int32} (hf : g_X4_copyFrom_2 F K a0  kself I R x1 x2 = some (I', R')) (hW : zS (zOwn B K (B + n)) D B n K I R s.heap H locs) (hl : lv_has ls 3 [(0, .ref (B + a0)), (1, zrf B x1), (2, .int x2)]) : W p l e ({ frames := 2, cells := 0, slots := 0, locals := 61 } : Room) s m args below meth c H locs 0 0 (MQ below (zQv D (zOwn B K (B + n)) B n K I' R') args s 0 0 (zOwn B K (B + n))) (F0 m 2 ls []) := by
  unfold g_X4_copyFrom_2 at hf
  refine lv_iload_n X.1 X.2.1 dX4_copyFrom_2 rfl (lv_at hl 2 rfl) ?_
  refine lv_aload_n X.1 X.2.1 dX4_copyFrom_3 rfl (lv_at hl 0 rfl) ?_
  refine ze_gtR X 4 0 11 (RX4, TX4, 2) rfl hf hW hK0 rfl (by decide) kfl_X4_11 dX4_copyFrom_4 (fun o16 hg => ?_)
  replace hf := hg
  obtain ⟨a17, rfl, k19, hg⟩ := zh_dr hf
  replace hf := hg
  refine ze_alen X 4 (by decide) hW k19 dX4_copyFrom_7 ?_
  refine lv_icmp_ge (tgt := 28) X.1 X.2.1 dX4_copyFrom_8 (by decide) (fun c20 => ?_) (fun c20 => ?_)
  · replace hf := zif_pos c20 hf
    refine lv_iconst (v := 0) X.1 X.2.1 dX4_copyFrom_28 (by decide) ?_
    refine lv_istore_n (i := 2) (lv' := [(2, .int (0 : Int32)), (0, .ref (B + a0)), (1, zrf B x1)]) X.1 X.2.1 dX4_copyFrom_29 rfl hl (by decide) (by first | rfl | (simp [zcat, zcat_i, zcat_r, zcat_l, zrf_some]; done) | (simp [zcat, zcat_i, zcat_r, zcat_l, zrf_some]; decide)) (fun ls hk => ?_)
    replace hl := hk
    exact w_X4_copyFrom_30 X hr hlk hK0 hf hW (lv_sub hl [1, 2, 0] rfl)
  · replace hf := zif_neg c20 hf
    refine lv_aload_n X.1 X.2.1 dX4_copyFrom_11 rfl (lv_at hl 0 rfl) ?_
    refine ze_gtR X 4 0 11 (RX4, TX4, 2) rfl hf hW hK0 rfl (by decide) kfl_X4_11 dX4_copyFrom_12 (fun o21 hg => ?_)
    replace hf := hg
    refine lv_iload_n X.1 X.2.1 dX4_copyFrom_15 rfl (lv_at hl 2 rfl) ?_
    refine ze_aload_n X.1 X.2.1 dX4_copyFrom_16 rfl (lv_at hl 1 rfl) ?_
    refine lv_iload_n X.1 X.2.1 dX4_copyFrom_17 rfl (lv_at hl 2 rfl) ?_
    obtain ⟨a22, rfl, k24, hg⟩ := zh_dr hf
    replace hf := hg
    obtain ⟨o25, h26, hg⟩ := zh_bd hf
    replace hf := hg
    refine ze_aftQ0 (ze_runV (As := [.int x2]) (rest := [.int x2, zrf B o21]) X 4 25 (c_X4_term l D B n k24 h26) vX4_term kml_X4_25 hW k24 rfl rfl ⟨by decide, by decide⟩ rfl hl.1 rfl (by simp [zcat, zcat_i, zcat_r, zcat_l]) ⟨Nat.le_refl _, Nat.le_refl _⟩ dX4_copyFrom_18) hW (fun H locs hV => ?_)
    replace hW := hV
    obtain ⟨a27, rfl, k29, hg⟩ := zh_dr hf
    replace hf := hg
    refine ze_aast (x := o25) X 4 (by decide) hf hW k29 dX4_copyFrom_21 (fun R30 H locs hg hV => ?_)
    replace hf := hg
    replace hW := hV
    refine ze_iinc (lv' := [(2, .int (x2 + (1 : Int32))), (0, .ref (B + a0)), (1, .ref (B + a22))]) (d := 1) X.1 X.2.1 dX4_copyFrom_22 hl (k := 2) rfl (by decide) (by decide) rfl (fun ls hk => ?_)
    replace hl := hk
    refine lv_goto (tgt := 2) X.1 X.2.1 dX4_copyFrom_25 (by decide) ?_
    exact hkself _ _ _ _ _ _ _ hf hW (lv_sub hl [1, 2, 0] rfl)
set_option maxRecDepth 100000 in
set_option maxHeartbeats 4000000 in
theorem w_X4_copyFrom_2 {F : Nat} {a0 : Nat}  (X : zX p s m c cX4_copyFrom 3 RX4 D) (hr : meth.sig.returnType = none) (hlk : meth.locks = false) (hK0 : (K a0).1 = 14)  {t : Nat} {x1 : Option Nat} {x2 : Int32} (hf : f_X4_copyFrom_2 F K a0  t I R x1 x2 = some (I', R')) (hW : zS (zOwn B K (B + n)) D B n K I R s.heap H locs) (hl : lv_has ls 3 [(0, .ref (B + a0)), (1, zrf B x1), (2, .int x2)]) : W p l e ({ frames := 2, cells := 0, slots := 0, locals := 61 } : Room) s m args below meth c H locs 0 0 (MQ below (zQv D (zOwn B K (B + n)) B n K I' R') args s 0 0 (zOwn B K (B + n))) (F0 m 2 ls []) := by
  have key : ∀ t : Nat, ∀ (I : zI) (R : zR) (x1 : Option Nat) (x2 : Int32) (H : Heap) (locs : List Loc) (ls : Array Slot), f_X4_copyFrom_2 F K a0  t I R x1 x2 = some (I', R') → zS (zOwn B K (B + n)) D B n K I R s.heap H locs → lv_has ls 3 [(0, .ref (B + a0)), (1, zrf B x1), (2, .int x2)] → W p l e ({ frames := 2, cells := 0, slots := 0, locals := 61 } : Room) s m args below meth c H locs 0 0 (MQ below (zQv D (zOwn B K (B + n)) B n K I' R') args s 0 0 (zOwn B K (B + n))) (F0 m 2 ls []) := by
    intro t
    induction t with
    | zero =>
      intro I R x1 x2 H locs ls hf hW hl
      cases hf
    | succ t ih =>
      intro I R x1 x2 H locs ls hf hW hl
      exact wg_X4_copyFrom_2 X hr hlk hK0  ih hf hW hl
  exact key t _ _ _ _ _ _ _ hf hW hl
set_option maxRecDepth 100000 in
set_option maxHeartbeats 4000000 in
theorem c_X4_copyFrom (l : Launch) (D : zD) (B n : Nat) {F : Nat} {K : zK} {I : zI} {R : zR} {a0 : Nat} {x1 : Option Nat} {I' : zI} {R' : zR} (hK0 : (K a0).1 = 14) (hf : f_X4_copyFrom F K I R a0 x1 = some (I', R')) : zM l yX4_copyFrom cX4_copyFrom 3 (none) ({ frames := 2, cells := 0, slots := 0, locals := 61 } : Room) D B n K I R [.ref (B + a0), zrf B x1] (zQv D (zOwn B K (B + n)) B n K I' R') := by
  refine ze_entry (lv0 := [(0, .ref (B + a0)), (1, zrf B x1)]) (by decide) (by simp [lg_sl, zcat, zcat_i, zcat_r, zcat_l]) (by simp [lv_args, zcat, zcat_i, zcat_r, zcat_l]) (fun p e s m below meth c X hr hlk hin hW ls hl => ?_)
  unfold f_X4_copyFrom at hf
  refine lv_iconst (v := 0) X.1 X.2.1 dX4_copyFrom_0 (by decide) ?_
  refine lv_istore_n (i := 2) (lv' := [(2, .int (0 : Int32)), (0, .ref (B + a0)), (1, zrf B x1)]) X.1 X.2.1 dX4_copyFrom_1 rfl hl (by decide) (by first | rfl | (simp [zcat, zcat_i, zcat_r, zcat_l, zrf_some]; done) | (simp [zcat, zcat_i, zcat_r, zcat_l, zrf_some]; decide)) (fun ls hk => ?_)
  replace hl := hk
  exact w_X4_copyFrom_2 X hr hlk hK0 hf hW (lv_sub hl [1, 2, 0] rfl)
end

/-! LeastPatterns.remember()V -/
def f_X6_remember_74 (F : Nat) (K : zK) (a0 : Nat)  (I : zI) (R : zR) : Option (zI × zR) :=
  zbd (some (R a0 4)) fun o1 =>
  zbd (zdr K o1 3) fun a2 =>
  zbd (f_X6_outside F K I R (I a0 5) ((zln K a2) - (1 : Int32))) fun v5 =>
  if v5 = (0 : Int32) then
    zbd (some (R a0 4)) fun o8 =>
    zbd (zdr K o8 3) fun a9 =>
    zbd (zrdR K R a9 (I a0 5)) fun o12 =>
    zcs o12 (
      some (I, R)
    ) fun a13 =>
      zbd (some (R a0 3)) fun o15 =>
      if (K a13).1 = 14 then
      zbd2 (f_X4_copyFrom F K I R a13 o15) fun I17 R18 =>
      zbd (some (zup I17 a0 5 ((I17 a0 5) + (1 : Int32)))) fun I20 =>
      some (I20, R18)
      else none
  else
    some (I, R)
def g_X6_remember_21 (F : Nat) (K : zK) (a0 : Nat)  (kself : zI → zR → Option Nat → Int32 → Option (zI × zR)) (I : zI) (R : zR) (x1 : Option Nat) (x2 : Int32) : Option (zI × zR) :=
  zbd (some (R a0 4)) fun o21 =>
  zbd (zdr K o21 3) fun a22 =>
  if (zln K a22) ≤ x2 then
    zbd (some (R a0 4)) fun o26 =>
    zbd (some (R a0 4)) fun o27 =>
    zbd (zdr K o27 3) fun a28 =>
    zbd (zdr K o26 3) fun a31 =>
    zbd (zwrR K R a31 ((zln K a28) - (1 : Int32)) x1 14) fun R34 =>
    zbd (some (R34 a0 4)) fun o35 =>
    zbd (zdr K o35 3) fun a36 =>
    zbd (some (zup I a0 5 ((zln K a36) - (1 : Int32)))) fun I39 =>
    f_X6_remember_74 F K a0 I39 R34
  else
    zbd (some (R a0 4)) fun o40 =>
    zbd (some (R a0 4)) fun o41 =>
    zbd (zdr K o41 3) fun a42 =>
    zbd (zrdR K R a42 x2) fun o45 =>
    zbd (zdr K o40 3) fun a46 =>
    zbd (zwrR K R a46 (x2 - (1 : Int32)) o45 14) fun R49 =>
    kself I R49 x1 (x2 + (1 : Int32))
def f_X6_remember_21 (F : Nat) (K : zK) (a0 : Nat)  : Nat → zI → zR → Option Nat → Int32 → Option (zI × zR)
  | 0, _, _, _, _ => none
  | t + 1, I, R, x1, x2 => g_X6_remember_21 F K a0  (f_X6_remember_21 F K a0  t) I R x1 x2
def f_X6_remember (F : Nat) (K : zK) (I : zI) (R : zR) (a0 : Nat)  : Option (zI × zR) :=
  zbd (some (R a0 4)) fun o50 =>
  zbd (zdr K o50 3) fun a51 =>
  if (I a0 5) < (zln K a51) then
    f_X6_remember_74 F K a0 I R
  else
    zbd (some (R a0 4)) fun o55 =>
    zbd (zdr K o55 3) fun a56 =>
    zbd (zrdR K R a56 (0 : Int32)) fun o59 =>
    f_X6_remember_21 F K a0 F I R o59 (1 : Int32)
section
variable {p : Program} {l : Launch} {e : Env} {s : State} {m : MethodId} {args : Array Value} {below : List Frame} {meth : Method} {c : Code} {D : zD} {B n n0 n' fd ld : Nat} {K K0 K' : zK} {I I' : zI} {R R' : zR} {H : Heap} {locs : List Loc} {ls : Array Slot} {r : Int32}
set_option maxRecDepth 100000 in
set_option maxHeartbeats 4000000 in
theorem w_X6_remember_74 {F : Nat} {a0 : Nat}  (X : zX p s m c cX6_remember 3 RX6 D) (hr : meth.sig.returnType = none) (hlk : meth.locks = false) (hK0 : (K a0).1 = 16)   (hf : f_X6_remember_74 F K a0  I R = some (I', R')) (hW : zS (zOwn B K (B + n)) D B n K I R s.heap H locs) (hl : lv_has ls 3 [(0, .ref (B + a0))]) : W p l e ({ frames := 3, cells := 0, slots := 0, locals := 83 } : Room) s m args below meth c H locs 0 0 (MQ below (zQv D (zOwn B K (B + n)) B n K I' R') args s 0 0 (zOwn B K (B + n))) (F0 m 74 ls []) := by
  unfold f_X6_remember_74 at hf
  refine lv_aload_n X.1 X.2.1 dX6_remember_74 rfl (lv_at hl 0 rfl) ?_
  refine ze_getI X 6 5 31 (RX6, TX6, 11) rfl hW hK0 rfl (by decide) kfl_X6_31 dX6_remember_75 ?_
  refine lv_aload_n X.1 X.2.1 dX6_remember_78 rfl (lv_at hl 0 rfl) ?_
  refine ze_gtR X 6 4 27 (RX6, TX6, 11) rfl hf hW hK0 rfl (by decide) kfl_X6_27 dX6_remember_79 (fun o1 hg => ?_)
  replace hf := hg
  obtain ⟨a2, rfl, k4, hg⟩ := zh_dr hf
  replace hf := hg
  refine ze_alen X 3 (by decide) hW k4 dX6_remember_82 ?_
  refine lv_iconst (v := 1) X.1 X.2.1 dX6_remember_83 (by decide) ?_
  refine lv_isub X.1 X.2.1 dX6_remember_84 ?_
  obtain ⟨v5, h6, hg⟩ := zh_bd hf
  replace hf := hg
  refine ze_aftI0 (ze_runS (As := [.int (I a0 5), .int ((zln K a2) - (1 : Int32))]) (rest := []) X 65 (c_X6_outside l D B n h6) vX6_outside kml_X6_65 hW ⟨by decide, by decide⟩ rfl hl.1 rfl (Nat.le_of_ble_eq_true rfl) ⟨Nat.le_refl _, Nat.le_refl _⟩ dX6_remember_85) hW (fun H locs hV => ?_)
  replace hW := hV
  refine lv_if_eq (tgt := 92) X.1 X.2.1 dX6_remember_88 (by decide) (fun c7 => ?_) (fun c7 => ?_)
  · replace hf := zif_pos c7 hf
    refine lv_aload_n X.1 X.2.1 dX6_remember_92 rfl (lv_at hl 0 rfl) ?_
    refine ze_gtR X 6 4 27 (RX6, TX6, 11) rfl hf hW hK0 rfl (by decide) kfl_X6_27 dX6_remember_93 (fun o8 hg => ?_)
    replace hf := hg
    refine lv_aload_n X.1 X.2.1 dX6_remember_96 rfl (lv_at hl 0 rfl) ?_
    refine ze_getI X 6 5 31 (RX6, TX6, 11) rfl hW hK0 rfl (by decide) kfl_X6_31 dX6_remember_97 ?_
    obtain ⟨a9, rfl, k11, hg⟩ := zh_dr hf
    replace hf := hg
    refine ze_aald X 3 (by decide) hf hW k11 dX6_remember_100 (fun o12 hg => ?_)
    replace hf := hg
    refine ze_astore_n (i := 1) (lv' := [(1, zrf B o12), (0, .ref (B + a0))]) X.1 X.2.1 dX6_remember_101 rfl hl (by decide) rfl (fun ls hk => ?_)
    replace hl := hk
    refine ze_aload_n X.1 X.2.1 dX6_remember_102 rfl (lv_at hl 0 rfl) ?_
    refine ze_ifnull (tgt := 124) X.1 X.2.1 dX6_remember_103 (by decide) (fun c14 => ?_) (fun a13 c14 => ?_)
    · replace hf := zcs_none c14 hf
      subst c14
      obtain ⟨rfl, rfl⟩ := zi2 hf
      exact ze_retV X hr hlk hW (Nat.le_refl _) (Nat.le_refl _) dX6_remember_124
    · replace hf := zcs_some c14 hf
      subst c14
      refine lv_aload_n X.1 X.2.1 dX6_remember_106 rfl (lv_at hl 0 rfl) ?_
      refine lv_aload_n X.1 X.2.1 dX6_remember_107 rfl (lv_at hl 1 rfl) ?_
      refine ze_gtR X 6 3 23 (RX6, TX6, 11) rfl hf hW hK0 rfl (by decide) kfl_X6_23 dX6_remember_108 (fun o15 hg => ?_)
      replace hf := hg
      obtain ⟨k16, hg⟩ := zh_if hf
      replace hf := hg
      obtain ⟨I17, R18, h19, hg⟩ := zh_bd2 hf
      replace hf := hg
      refine ze_aftV0 (ze_runV (As := [zrf B o15]) (rest := []) X 4 192 (c_X4_copyFrom l D B n k16 h19) vX4_copyFrom kml_X6_192 hW k16 rfl rfl ⟨by decide, by decide⟩ rfl hl.1 rfl (Nat.le_of_ble_eq_true rfl) ⟨Nat.le_refl _, Nat.le_refl _⟩ dX6_remember_111) hW (fun H locs hV => ?_)
      replace hW := hV
      refine lv_aload_n X.1 X.2.1 dX6_remember_114 rfl (lv_at hl 1 rfl) ?_
      refine lv_dup X.1 X.2.1 dX6_remember_115 rfl ?_
      refine ze_getI X 6 5 31 (RX6, TX6, 11) rfl hW hK0 rfl (by decide) kfl_X6_31 dX6_remember_116 ?_
      refine lv_iconst (v := 1) X.1 X.2.1 dX6_remember_119 (by decide) ?_
      refine lv_iadd X.1 X.2.1 dX6_remember_120 ?_
      refine ze_putI X 6 5 31 (RX6, TX6, 11) rfl hf hW hK0 rfl (by decide) kfl_X6_31 rfl (by decide +kernel) dX6_remember_121 (fun I20 H locs hg hV => ?_)
      replace hf := hg
      replace hW := hV
      obtain ⟨rfl, rfl⟩ := zi2 hf
      exact ze_retV X hr hlk hW (Nat.le_refl _) (Nat.le_refl _) dX6_remember_124
  · replace hf := zif_neg c7 hf
    obtain ⟨rfl, rfl⟩ := zi2 hf
    exact ze_retV X hr hlk hW (Nat.le_refl _) (Nat.le_refl _) dX6_remember_91
set_option maxRecDepth 100000 in
set_option maxHeartbeats 4000000 in
theorem wg_X6_remember_21 {F : Nat} {a0 : Nat}  (X : zX p s m c cX6_remember 3 RX6 D) (hr : meth.sig.returnType = none) (hlk : meth.locks = false) (hK0 : (K a0).1 = 16)  {kself : zI → zR → Option Nat → Int32 → Option (zI × zR)} (hkself : ∀ (I : zI) (R : zR) (x1 : Option Nat) (x2 : Int32) (H : Heap) (locs : List Loc) (ls : Array Slot), kself I R x1 x2 = some (I', R') → zS (zOwn B K (B + n)) D B n K I R s.heap H locs → lv_has ls 3 [(0, .ref (B + a0)), (1, zrf B x1), (2, .int x2)] → W p l e ({ frames := 3, cells := 0, slots := 0, locals := 83 } : Room) s m args below meth c H locs 0 0 (MQ below (zQv D (zOwn B K (B + n)) B n K I' R') args s 0 0 (zOwn B K (B + n))) (F0 m 21 ls [])) {x1 : Option Nat} {x2 : Int32} (hf : g_X6_remember_21 F K a0  kself I R x1 x2 = some (I', R')) (hW : zS (zOwn B K (B + n)) D B n K I R s.heap H locs) (hl : lv_has ls 3 [(0, .ref (B + a0)), (1, zrf B x1), (2, .int x2)]) : W p l e ({ frames := 3, cells := 0, slots := 0, locals := 83 } : Room) s m args below meth c H locs 0 0 (MQ below (zQv D (zOwn B K (B + n)) B n K I' R') args s 0 0 (zOwn B K (B + n))) (F0 m 21 ls []) := by
  unfold g_X6_remember_21 at hf
  refine lv_iload_n X.1 X.2.1 dX6_remember_21 rfl (lv_at hl 2 rfl) ?_
  refine lv_aload_n X.1 X.2.1 dX6_remember_22 rfl (lv_at hl 0 rfl) ?_
  refine ze_gtR X 6 4 27 (RX6, TX6, 11) rfl hf hW hK0 rfl (by decide) kfl_X6_27 dX6_remember_23 (fun o21 hg => ?_)
  replace hf := hg
  obtain ⟨a22, rfl, k24, hg⟩ := zh_dr hf
  replace hf := hg
  refine ze_alen X 3 (by decide) hW k24 dX6_remember_26 ?_
  refine lv_icmp_ge (tgt := 50) X.1 X.2.1 dX6_remember_27 (by decide) (fun c25 => ?_) (fun c25 => ?_)
  · replace hf := zif_pos c25 hf
    refine lv_aload_n X.1 X.2.1 dX6_remember_50 rfl (lv_at hl 0 rfl) ?_
    refine ze_gtR X 6 4 27 (RX6, TX6, 11) rfl hf hW hK0 rfl (by decide) kfl_X6_27 dX6_remember_51 (fun o26 hg => ?_)
    replace hf := hg
    refine lv_aload_n X.1 X.2.1 dX6_remember_54 rfl (lv_at hl 0 rfl) ?_
    refine ze_gtR X 6 4 27 (RX6, TX6, 11) rfl hf hW hK0 rfl (by decide) kfl_X6_27 dX6_remember_55 (fun o27 hg => ?_)
    replace hf := hg
    obtain ⟨a28, rfl, k30, hg⟩ := zh_dr hf
    replace hf := hg
    refine ze_alen X 3 (by decide) hW k30 dX6_remember_58 ?_
    refine lv_iconst (v := 1) X.1 X.2.1 dX6_remember_59 (by decide) ?_
    refine lv_isub X.1 X.2.1 dX6_remember_60 ?_
    refine ze_aload_n X.1 X.2.1 dX6_remember_61 rfl (lv_at hl 1 rfl) ?_
    obtain ⟨a31, rfl, k33, hg⟩ := zh_dr hf
    replace hf := hg
    refine ze_aast (x := x1) X 3 (by decide) hf hW k33 dX6_remember_62 (fun R34 H locs hg hV => ?_)
    replace hf := hg
    replace hW := hV
    refine lv_aload_n X.1 X.2.1 dX6_remember_63 rfl (lv_at hl 0 rfl) ?_
    refine lv_aload_n X.1 X.2.1 dX6_remember_64 rfl (lv_at hl 0 rfl) ?_
    refine ze_gtR X 6 4 27 (RX6, TX6, 11) rfl hf hW hK0 rfl (by decide) kfl_X6_27 dX6_remember_65 (fun o35 hg => ?_)
    replace hf := hg
    obtain ⟨a36, rfl, k38, hg⟩ := zh_dr hf
    replace hf := hg
    refine ze_alen X 3 (by decide) hW k38 dX6_remember_68 ?_
    refine lv_iconst (v := 1) X.1 X.2.1 dX6_remember_69 (by decide) ?_
    refine lv_isub X.1 X.2.1 dX6_remember_70 ?_
    refine ze_putI X 6 5 31 (RX6, TX6, 11) rfl hf hW hK0 rfl (by decide) kfl_X6_31 rfl (by decide +kernel) dX6_remember_71 (fun I39 H locs hg hV => ?_)
    replace hf := hg
    replace hW := hV
    exact w_X6_remember_74 X hr hlk hK0 hf hW (lv_sub hl [0] rfl)
  · replace hf := zif_neg c25 hf
    refine lv_aload_n X.1 X.2.1 dX6_remember_30 rfl (lv_at hl 0 rfl) ?_
    refine ze_gtR X 6 4 27 (RX6, TX6, 11) rfl hf hW hK0 rfl (by decide) kfl_X6_27 dX6_remember_31 (fun o40 hg => ?_)
    replace hf := hg
    refine lv_iload_n X.1 X.2.1 dX6_remember_34 rfl (lv_at hl 2 rfl) ?_
    refine lv_iconst (v := 1) X.1 X.2.1 dX6_remember_35 (by decide) ?_
    refine lv_isub X.1 X.2.1 dX6_remember_36 ?_
    refine lv_aload_n X.1 X.2.1 dX6_remember_37 rfl (lv_at hl 0 rfl) ?_
    refine ze_gtR X 6 4 27 (RX6, TX6, 11) rfl hf hW hK0 rfl (by decide) kfl_X6_27 dX6_remember_38 (fun o41 hg => ?_)
    replace hf := hg
    refine lv_iload_n X.1 X.2.1 dX6_remember_41 rfl (lv_at hl 2 rfl) ?_
    obtain ⟨a42, rfl, k44, hg⟩ := zh_dr hf
    replace hf := hg
    refine ze_aald X 3 (by decide) hf hW k44 dX6_remember_42 (fun o45 hg => ?_)
    replace hf := hg
    obtain ⟨a46, rfl, k48, hg⟩ := zh_dr hf
    replace hf := hg
    refine ze_aast (x := o45) X 3 (by decide) hf hW k48 dX6_remember_43 (fun R49 H locs hg hV => ?_)
    replace hf := hg
    replace hW := hV
    refine ze_iinc (lv' := [(2, .int (x2 + (1 : Int32))), (0, .ref (B + a0)), (1, zrf B x1)]) (d := 1) X.1 X.2.1 dX6_remember_44 hl (k := 2) rfl (by decide) (by decide) (by first | rfl | (simp [zcat, zcat_i, zcat_r, zcat_l, zrf_some]; done) | (simp [zcat, zcat_i, zcat_r, zcat_l, zrf_some]; decide)) (fun ls hk => ?_)
    replace hl := hk
    refine lv_goto (tgt := 21) X.1 X.2.1 dX6_remember_47 (by decide) ?_
    exact hkself _ _ _ _ _ _ _ hf hW (lv_sub hl [1, 2, 0] rfl)
set_option maxRecDepth 100000 in
set_option maxHeartbeats 4000000 in
theorem w_X6_remember_21 {F : Nat} {a0 : Nat}  (X : zX p s m c cX6_remember 3 RX6 D) (hr : meth.sig.returnType = none) (hlk : meth.locks = false) (hK0 : (K a0).1 = 16)  {t : Nat} {x1 : Option Nat} {x2 : Int32} (hf : f_X6_remember_21 F K a0  t I R x1 x2 = some (I', R')) (hW : zS (zOwn B K (B + n)) D B n K I R s.heap H locs) (hl : lv_has ls 3 [(0, .ref (B + a0)), (1, zrf B x1), (2, .int x2)]) : W p l e ({ frames := 3, cells := 0, slots := 0, locals := 83 } : Room) s m args below meth c H locs 0 0 (MQ below (zQv D (zOwn B K (B + n)) B n K I' R') args s 0 0 (zOwn B K (B + n))) (F0 m 21 ls []) := by
  have key : ∀ t : Nat, ∀ (I : zI) (R : zR) (x1 : Option Nat) (x2 : Int32) (H : Heap) (locs : List Loc) (ls : Array Slot), f_X6_remember_21 F K a0  t I R x1 x2 = some (I', R') → zS (zOwn B K (B + n)) D B n K I R s.heap H locs → lv_has ls 3 [(0, .ref (B + a0)), (1, zrf B x1), (2, .int x2)] → W p l e ({ frames := 3, cells := 0, slots := 0, locals := 83 } : Room) s m args below meth c H locs 0 0 (MQ below (zQv D (zOwn B K (B + n)) B n K I' R') args s 0 0 (zOwn B K (B + n))) (F0 m 21 ls []) := by
    intro t
    induction t with
    | zero =>
      intro I R x1 x2 H locs ls hf hW hl
      cases hf
    | succ t ih =>
      intro I R x1 x2 H locs ls hf hW hl
      exact wg_X6_remember_21 X hr hlk hK0  ih hf hW hl
  exact key t _ _ _ _ _ _ _ hf hW hl
set_option maxRecDepth 100000 in
set_option maxHeartbeats 4000000 in
theorem c_X6_remember (l : Launch) (D : zD) (B n : Nat) {F : Nat} {K : zK} {I : zI} {R : zR} {a0 : Nat}  {I' : zI} {R' : zR} (hK0 : (K a0).1 = 16) (hf : f_X6_remember F K I R a0  = some (I', R')) : zM l yX6_remember cX6_remember 3 (none) ({ frames := 3, cells := 0, slots := 0, locals := 83 } : Room) D B n K I R [.ref (B + a0)] (zQv D (zOwn B K (B + n)) B n K I' R') := by
  refine ze_entry (lv0 := [(0, .ref (B + a0))]) (by decide) (by simp [lg_sl, zcat, zcat_i, zcat_r, zcat_l]) (by simp [lv_args, zcat, zcat_i, zcat_r, zcat_l]) (fun p e s m below meth c X hr hlk hin hW ls hl => ?_)
  unfold f_X6_remember at hf
  refine lv_aload_n X.1 X.2.1 dX6_remember_0 rfl (lv_at hl 0 rfl) ?_
  refine ze_getI X 6 5 31 (RX6, TX6, 11) rfl hW hK0 rfl (by decide) kfl_X6_31 dX6_remember_1 ?_
  refine lv_aload_n X.1 X.2.1 dX6_remember_4 rfl (lv_at hl 0 rfl) ?_
  refine ze_gtR X 6 4 27 (RX6, TX6, 11) rfl hf hW hK0 rfl (by decide) kfl_X6_27 dX6_remember_5 (fun o50 hg => ?_)
  replace hf := hg
  obtain ⟨a51, rfl, k53, hg⟩ := zh_dr hf
  replace hf := hg
  refine ze_alen X 3 (by decide) hW k53 dX6_remember_8 ?_
  refine lv_icmp_lt (tgt := 74) X.1 X.2.1 dX6_remember_9 (by decide) (fun c54 => ?_) (fun c54 => ?_)
  · replace hf := zif_pos c54 hf
    exact w_X6_remember_74 X hr hlk hK0 hf hW hl
  · replace hf := zif_neg c54 hf
    refine lv_aload_n X.1 X.2.1 dX6_remember_12 rfl (lv_at hl 0 rfl) ?_
    refine ze_gtR X 6 4 27 (RX6, TX6, 11) rfl hf hW hK0 rfl (by decide) kfl_X6_27 dX6_remember_13 (fun o55 hg => ?_)
    replace hf := hg
    refine lv_iconst (v := 0) X.1 X.2.1 dX6_remember_16 (by decide) ?_
    obtain ⟨a56, rfl, k58, hg⟩ := zh_dr hf
    replace hf := hg
    refine ze_aald X 3 (by decide) hf hW k58 dX6_remember_17 (fun o59 hg => ?_)
    replace hf := hg
    refine ze_astore_n (i := 1) (lv' := [(1, zrf B o59), (0, .ref (B + a0))]) X.1 X.2.1 dX6_remember_18 rfl hl (by decide) rfl (fun ls hk => ?_)
    replace hl := hk
    refine lv_iconst (v := 1) X.1 X.2.1 dX6_remember_19 (by decide) ?_
    refine lv_istore_n (i := 2) (lv' := [(2, .int (1 : Int32)), (1, zrf B o59), (0, .ref (B + a0))]) X.1 X.2.1 dX6_remember_20 rfl hl (by decide) (by first | rfl | (simp [zcat, zcat_i, zcat_r, zcat_l, zrf_some]; done) | (simp [zcat, zcat_i, zcat_r, zcat_l, zrf_some]; decide)) (fun ls hk => ?_)
    replace hl := hk
    exact w_X6_remember_21 X hr hlk hK0 hf hW (lv_sub hl [2, 1, 0] rfl)
end

/-! LeastPatterns.put(I)I -/
def f_X6_put (F : Nat) (n : Nat) (K : zK) (I : zI) (R : zR) (a0 : Nat) (x1 : Int32) : Option (Int32 × Nat × zK × zI × zR) :=
  zbd (f_X6_noRegister F K I R x1) fun v1 =>
  if v1 = (0 : Int32) then
    if (K a0).1 = 16 then
    zbd (some (zup I a0 2 (-9 : Int32))) fun I5 =>
    zbd (some (R a0 6)) fun o6 =>
    zbd (some (R a0 0)) fun o7 =>
    zbd (zdr K o6 12) fun a8 =>
    zbd5 (f_X2_read F n K I5 R a8 o7 (I5 a0 1)) fun o11 n12 K13 I14 R15 =>
    zcs o11 (
      if (K13 a0).1 = 16 then
      zbd (some (R15 a0 6)) fun o20 =>
      zbd (zdr K13 o20 12) fun a21 =>
      zbd (some (zup I14 a0 2 (I14 a21 3))) fun I24 =>
      zbd (some (R15 a0 6)) fun o25 =>
      zbd (zdr K13 o25 12) fun a26 =>
      some ((-10 : Int32) - (I24 a26 2), n12, K13, I24, R15)
      else none
    ) fun a17 =>
      if (K13 a0).1 = 16 then
      zbd (some (R15 a0 7)) fun o30 =>
      zbd (some (R15 a0 3)) fun o31 =>
      zbd (zdr K13 o31 14) fun a32 =>
      zbd (f_X4_setting F K13 I14 R15 a32 (2 : Int32)) fun v35 =>
      zbd (zdr K13 o30 13) fun a37 =>
      zbd5 (f_X3_flattened F n12 K13 I14 R15 a37 (some a17) v35) fun o40 n41 K42 I43 R44 =>
      zcs o40 (
        if (K42 a0).1 = 16 then
        zbd (some (zup I43 a0 2 (5 : Int32))) fun I49 =>
        some ((-10 : Int32) - (I49 a0 1), n41, K42, I49, R44)
        else none
      ) fun a46 =>
        if (K42 a0).1 = 16 then
        zbd (some (R44 a0 7)) fun o51 =>
        zbd (some (R44 a0 3)) fun o52 =>
        zbd (zdr K42 o52 14) fun a53 =>
        zbd (f_X4_setting F K42 I43 R44 a53 (3 : Int32)) fun v56 =>
        zbd (zdr K42 o51 13) fun a58 =>
        zbd (f_X3_arrange F K42 I43 R44 a58 (some a46) v56) fun I61 =>
        zbd2 (f_X6_remember F K42 I61 R44 a0) fun I63 R64 =>
        zbd (some (R64 a0 3)) fun o66 =>
        zbd (zdr K42 o66 14) fun a67 =>
        zbd (f_X4_hold F K42 I63 R64 a67 x1 (some a46)) fun R70 =>
        if (K42 a46).1 = 15 then
        some (I63 a46 3, n41, K42, I63, R70)
        else none
        else none
      else none
    else none
  else
    some ((-1 : Int32), n, K, I, R)
section
variable {p : Program} {l : Launch} {e : Env} {s : State} {m : MethodId} {args : Array Value} {below : List Frame} {meth : Method} {c : Code} {D : zD} {B n n0 n' fd ld : Nat} {K K0 K' : zK} {I I' : zI} {R R' : zR} {H : Heap} {locs : List Loc} {ls : Array Slot} {r : Int32}
set_option maxRecDepth 100000 in
set_option maxHeartbeats 4000000 in
theorem c_X6_put (l : Launch) (D : zD) (B n : Nat) {F : Nat} {K : zK} {I : zI} {R : zR} {a0 : Nat} {x1 : Int32} {r : Int32} {n' : Nat} {K' : zK} {I' : zI} {R' : zR} (hf : f_X6_put F n K I R a0 x1 = some (r, n', K', I', R')) : zM l yX6_put cX6_put 4 (some .int) ({ frames := 5, cells := 8, slots := 200, locals := 140 } : Room) D B n K I R [.ref (B + a0), .int x1] (zQi D (zOwn B K (B + n)) r B n' K' I' R') := by
  refine ze_entry (lv0 := [(0, .ref (B + a0)), (1, .int x1)]) (by decide) (by simp [lg_sl, zcat, zcat_i, zcat_r, zcat_l]) (by simp [lv_args, zcat, zcat_i, zcat_r, zcat_l]) (fun p e s m below meth c X hr hlk hin hW ls hl => ?_)
  unfold f_X6_put at hf
  have b1 : (0 : Nat) ≤ 0 := Nat.le_refl _
  refine lv_iload_n X.1 X.2.1 dX6_put_0 rfl (lv_at hl 1 rfl) ?_
  obtain ⟨v1, h2, hg⟩ := zh_bd hf
  replace hf := hg
  refine ze_aftI0 (ze_runS (As := [.int x1]) (rest := []) X 69 (c_X6_noRegister l D B n h2) vX6_noRegister kml_X6_69 hW ⟨by decide, by decide⟩ rfl hl.1 rfl (Nat.le_of_ble_eq_true rfl) ⟨by show _ + 0 ≤ (8 : Nat); (try dsimp only); omega, by show _ + 0 ≤ (200 : Nat); (try dsimp only); omega⟩ dX6_put_1) hW (fun H locs hV => ?_)
  replace hW := hV
  refine lv_if_eq (tgt := 9) X.1 X.2.1 dX6_put_4 (by decide) (fun c3 => ?_) (fun c3 => ?_)
  · replace hf := zif_pos c3 hf
    refine lv_aload_n X.1 X.2.1 dX6_put_9 rfl (lv_at hl 0 rfl) ?_
    refine lv_bipush (v := -9) X.1 X.2.1 dX6_put_10 (by decide) ?_
    obtain ⟨k4, hg⟩ := zh_if hf
    replace hf := hg
    refine ze_putI X 6 2 17 (RX6, TX6, 11) rfl hf hW k4 rfl (by decide) kfl_X6_17 rfl (by decide +kernel) dX6_put_12 (fun I5 H locs hg hV => ?_)
    replace hf := hg
    replace hW := hV
    refine lv_aload_n X.1 X.2.1 dX6_put_15 rfl (lv_at hl 0 rfl) ?_
    refine ze_gtR X 6 6 37 (RX6, TX6, 11) rfl hf hW k4 rfl (by decide) kfl_X6_37 dX6_put_16 (fun o6 hg => ?_)
    replace hf := hg
    refine lv_aload_n X.1 X.2.1 dX6_put_19 rfl (lv_at hl 0 rfl) ?_
    refine ze_gtR X 6 0 9 (RX6, TX6, 11) rfl hf hW k4 rfl (by decide) kfl_X6_9 dX6_put_20 (fun o7 hg => ?_)
    replace hf := hg
    refine lv_aload_n X.1 X.2.1 dX6_put_23 rfl (lv_at hl 0 rfl) ?_
    refine ze_getI X 6 1 13 (RX6, TX6, 11) rfl hW k4 rfl (by decide) kfl_X6_13 dX6_put_24 ?_
    obtain ⟨a8, rfl, k10, hg⟩ := zh_dr hf
    replace hf := hg
    obtain ⟨o11, n12, K13, I14, R15, h16, hg⟩ := zh_bd5 hf
    replace hf := hg
    refine ze_aftQ (ze_runV (As := [zrf B o7, .int (I5 a0 1)]) (rest := []) X 2 73 (c_X2_read l D B n h16) vX2_read kml_X6_73 hW k10 rfl rfl ⟨by decide, by decide⟩ rfl hl.1 rfl (Nat.le_of_ble_eq_true rfl) ⟨by show _ + 4 ≤ (8 : Nat); (try dsimp only); omega, by show _ + 100 ≤ (200 : Nat); (try dsimp only); omega⟩ dX6_put_27) hW (fun H locs hV => ?_)
    replace hW := hV
    refine ze_astore_n (i := 2) (lv' := [(2, zrf B o11), (0, .ref (B + a0)), (1, .int x1)]) X.1 X.2.1 dX6_put_30 rfl hl (by decide) rfl (fun ls hk => ?_)
    replace hl := hk
    refine ze_aload_n X.1 X.2.1 dX6_put_31 rfl (lv_at hl 0 rfl) ?_
    refine ze_ifnonnull (tgt := 57) X.1 X.2.1 dX6_put_32 (by decide) (fun a17 c18 => ?_) (fun c18 => ?_)
    · replace hf := zcs_some c18 hf
      subst c18
      refine lv_aload_n X.1 X.2.1 dX6_put_57 rfl (lv_at hl 1 rfl) ?_
      obtain ⟨k29, hg⟩ := zh_if hf
      replace hf := hg
      refine ze_gtR X 6 7 44 (RX6, TX6, 11) rfl hf hW k29 rfl (by decide) kfl_X6_44 dX6_put_58 (fun o30 hg => ?_)
      replace hf := hg
      refine lv_aload_n X.1 X.2.1 dX6_put_61 rfl (lv_at hl 0 rfl) ?_
      refine lv_aload_n X.1 X.2.1 dX6_put_62 rfl (lv_at hl 1 rfl) ?_
      refine ze_gtR X 6 3 23 (RX6, TX6, 11) rfl hf hW k29 rfl (by decide) kfl_X6_23 dX6_put_63 (fun o31 hg => ?_)
      replace hf := hg
      refine lv_iconst (v := 2) X.1 X.2.1 dX6_put_66 (by decide) ?_
      obtain ⟨a32, rfl, k34, hg⟩ := zh_dr hf
      replace hf := hg
      obtain ⟨v35, h36, hg⟩ := zh_bd hf
      replace hf := hg
      refine ze_aftI0 (ze_runV (As := [.int (2 : Int32)]) (rest := [.ref (B + a17), zrf B o30]) X 4 83 (c_X4_setting l D B n12 k34 h36) vX4_setting kml_X6_83 hW k34 rfl rfl ⟨by decide, by decide⟩ rfl hl.1 rfl (by simp [zcat, zcat_i, zcat_r, zcat_l]) ⟨by show _ + 0 ≤ (8 : Nat); (try dsimp only); omega, by show _ + 0 ≤ (200 : Nat); (try dsimp only); omega⟩ dX6_put_67) hW (fun H locs hV => ?_)
      replace hW := hV
      obtain ⟨a37, rfl, k39, hg⟩ := zh_dr hf
      replace hf := hg
      obtain ⟨o40, n41, K42, I43, R44, h45, hg⟩ := zh_bd5 hf
      replace hf := hg
      refine ze_aftQ (ze_runV (As := [.ref (B + a17), .int v35]) (rest := []) X 3 87 (c_X3_flattened l D B n12 h45) vX3_flattened kml_X6_87 hW k39 rfl rfl ⟨by decide, by decide⟩ rfl hl.1 rfl (Nat.le_of_ble_eq_true rfl) ⟨by show _ + 4 ≤ (8 : Nat); (try dsimp only); omega, by show _ + 100 ≤ (200 : Nat); (try dsimp only); omega⟩ dX6_put_70) hW (fun H locs hV => ?_)
      replace hW := hV
      refine ze_astore_n (i := 3) (lv' := [(3, zrf B o40), (2, .ref (B + a17)), (0, .ref (B + a0)), (1, .int x1)]) X.1 X.2.1 dX6_put_73 rfl hl (by decide) rfl (fun ls hk => ?_)
      replace hl := hk
      refine ze_aload_n X.1 X.2.1 dX6_put_74 rfl (lv_at hl 0 rfl) ?_
      refine ze_ifnonnull (tgt := 91) X.1 X.2.1 dX6_put_75 (by decide) (fun a46 c47 => ?_) (fun c47 => ?_)
      · replace hf := zcs_some c47 hf
        subst c47
        refine lv_aload_n X.1 X.2.1 dX6_put_91 rfl (lv_at hl 2 rfl) ?_
        obtain ⟨k50, hg⟩ := zh_if hf
        replace hf := hg
        refine ze_gtR X 6 7 44 (RX6, TX6, 11) rfl hf hW k50 rfl (by decide) kfl_X6_44 dX6_put_92 (fun o51 hg => ?_)
        replace hf := hg
        refine lv_aload_n X.1 X.2.1 dX6_put_95 rfl (lv_at hl 0 rfl) ?_
        refine lv_aload_n X.1 X.2.1 dX6_put_96 rfl (lv_at hl 2 rfl) ?_
        refine ze_gtR X 6 3 23 (RX6, TX6, 11) rfl hf hW k50 rfl (by decide) kfl_X6_23 dX6_put_97 (fun o52 hg => ?_)
        replace hf := hg
        refine lv_iconst (v := 3) X.1 X.2.1 dX6_put_100 (by decide) ?_
        obtain ⟨a53, rfl, k55, hg⟩ := zh_dr hf
        replace hf := hg
        obtain ⟨v56, h57, hg⟩ := zh_bd hf
        replace hf := hg
        refine ze_aftI0 (ze_runV (As := [.int (3 : Int32)]) (rest := [.ref (B + a46), zrf B o51]) X 4 83 (c_X4_setting l D B n41 k55 h57) vX4_setting kml_X6_83 hW k55 rfl rfl ⟨by decide, by decide⟩ rfl hl.1 rfl (by simp [zcat, zcat_i, zcat_r, zcat_l]) ⟨by show _ + 0 ≤ (8 : Nat); (try dsimp only); omega, by show _ + 0 ≤ (200 : Nat); (try dsimp only); omega⟩ dX6_put_101) hW (fun H locs hV => ?_)
        replace hW := hV
        obtain ⟨a58, rfl, k60, hg⟩ := zh_dr hf
        replace hf := hg
        obtain ⟨I61, h62, hg⟩ := zh_bd hf
        replace hf := hg
        refine ze_aftV0 (ze_runV (As := [.ref (B + a46), .int v56]) (rest := []) X 3 91 (c_X3_arrange l D B n41 k60 h62) vX3_arrange kml_X6_91 hW k60 rfl rfl ⟨by decide, by decide⟩ rfl hl.1 rfl (Nat.le_of_ble_eq_true rfl) ⟨by show _ + 0 ≤ (8 : Nat); (try dsimp only); omega, by show _ + 0 ≤ (200 : Nat); (try dsimp only); omega⟩ dX6_put_104) hW (fun H locs hV => ?_)
        replace hW := hV
        refine lv_aload_n X.1 X.2.1 dX6_put_107 rfl (lv_at hl 2 rfl) ?_
        obtain ⟨I63, R64, h65, hg⟩ := zh_bd2 hf
        replace hf := hg
        refine ze_aftV0 (ze_runV (As := []) (rest := []) X 6 95 (c_X6_remember l D B n41 k50 h65) vX6_remember kml_X6_95 hW k50 rfl rfl ⟨by decide, by decide⟩ rfl hl.1 rfl (Nat.le_of_ble_eq_true rfl) ⟨by show _ + 0 ≤ (8 : Nat); (try dsimp only); omega, by show _ + 0 ≤ (200 : Nat); (try dsimp only); omega⟩ dX6_put_108) hW (fun H locs hV => ?_)
        replace hW := hV
        refine lv_aload_n X.1 X.2.1 dX6_put_111 rfl (lv_at hl 2 rfl) ?_
        refine ze_gtR X 6 3 23 (RX6, TX6, 11) rfl hf hW k50 rfl (by decide) kfl_X6_23 dX6_put_112 (fun o66 hg => ?_)
        replace hf := hg
        refine lv_iload_n X.1 X.2.1 dX6_put_115 rfl (lv_at hl 3 rfl) ?_
        refine lv_aload_n X.1 X.2.1 dX6_put_116 rfl (lv_at hl 0 rfl) ?_
        obtain ⟨a67, rfl, k69, hg⟩ := zh_dr hf
        replace hf := hg
        obtain ⟨R70, h71, hg⟩ := zh_bd hf
        replace hf := hg
        refine ze_aftV0 (ze_runV (As := [.int x1, .ref (B + a46)]) (rest := []) X 4 98 (c_X4_hold l D B n41 k69 h71) vX4_hold kml_X6_98 hW k69 rfl rfl ⟨by decide, by decide⟩ rfl hl.1 rfl (Nat.le_of_ble_eq_true rfl) ⟨by show _ + 0 ≤ (8 : Nat); (try dsimp only); omega, by show _ + 0 ≤ (200 : Nat); (try dsimp only); omega⟩ dX6_put_117) hW (fun H locs hV => ?_)
        replace hW := hV
        refine lv_aload_n X.1 X.2.1 dX6_put_120 rfl (lv_at hl 0 rfl) ?_
        obtain ⟨k72, hg⟩ := zh_if hf
        replace hf := hg
        refine ze_getIN X 5 3 102 (RX5, TX5, 4) rfl hW k72 rfl (by decide) kfl_X6_102 dX6_put_121 ?_
        obtain ⟨rfl, rfl, rfl, rfl, rfl⟩ := zi5 hf
        exact ze_retI X hr hlk hW (by (try dsimp only); omega) (by (try dsimp only); omega) dX6_put_124
      · replace hf := zcs_none c47 hf
        subst c47
        refine lv_aload_n X.1 X.2.1 dX6_put_78 rfl (lv_at hl 2 rfl) ?_
        refine lv_iconst (v := 5) X.1 X.2.1 dX6_put_79 (by decide) ?_
        obtain ⟨k48, hg⟩ := zh_if hf
        replace hf := hg
        refine ze_putI X 6 2 17 (RX6, TX6, 11) rfl hf hW k48 rfl (by decide) kfl_X6_17 rfl (by decide +kernel) dX6_put_80 (fun I49 H locs hg hV => ?_)
        replace hf := hg
        replace hW := hV
        refine lv_bipush (v := -10) X.1 X.2.1 dX6_put_83 (by decide) ?_
        refine lv_aload_n X.1 X.2.1 dX6_put_85 rfl (lv_at hl 2 rfl) ?_
        refine ze_getI X 6 1 13 (RX6, TX6, 11) rfl hW k48 rfl (by decide) kfl_X6_13 dX6_put_86 ?_
        refine lv_isub X.1 X.2.1 dX6_put_89 ?_
        obtain ⟨rfl, rfl, rfl, rfl, rfl⟩ := zi5 hf
        exact ze_retI X hr hlk hW (by (try dsimp only); omega) (by (try dsimp only); omega) dX6_put_90
    · replace hf := zcs_none c18 hf
      subst c18
      refine lv_aload_n X.1 X.2.1 dX6_put_35 rfl (lv_at hl 1 rfl) ?_
      refine lv_aload_n X.1 X.2.1 dX6_put_36 rfl (lv_at hl 1 rfl) ?_
      obtain ⟨k19, hg⟩ := zh_if hf
      replace hf := hg
      refine ze_gtR X 6 6 37 (RX6, TX6, 11) rfl hf hW k19 rfl (by decide) kfl_X6_37 dX6_put_37 (fun o20 hg => ?_)
      replace hf := hg
      obtain ⟨a21, rfl, k23, hg⟩ := zh_dr hf
      replace hf := hg
      refine ze_getIN X 2 3 77 (RX2, TX2, 9) rfl hW k23 rfl (by decide) kfl_X6_77 dX6_put_40 ?_
      refine ze_putI X 6 2 17 (RX6, TX6, 11) rfl hf hW k19 rfl (by decide) kfl_X6_17 rfl (by decide +kernel) dX6_put_43 (fun I24 H locs hg hV => ?_)
      replace hf := hg
      replace hW := hV
      refine lv_bipush (v := -10) X.1 X.2.1 dX6_put_46 (by decide) ?_
      refine lv_aload_n X.1 X.2.1 dX6_put_48 rfl (lv_at hl 1 rfl) ?_
      refine ze_gtR X 6 6 37 (RX6, TX6, 11) rfl hf hW k19 rfl (by decide) kfl_X6_37 dX6_put_49 (fun o25 hg => ?_)
      replace hf := hg
      obtain ⟨a26, rfl, k28, hg⟩ := zh_dr hf
      replace hf := hg
      refine ze_getIN X 2 2 80 (RX2, TX2, 9) rfl hW k28 rfl (by decide) kfl_X6_80 dX6_put_52 ?_
      refine lv_isub X.1 X.2.1 dX6_put_55 ?_
      obtain ⟨rfl, rfl, rfl, rfl, rfl⟩ := zi5 hf
      exact ze_retI X hr hlk hW (by (try dsimp only); omega) (by (try dsimp only); omega) dX6_put_56
  · replace hf := zif_neg c3 hf
    refine lv_iconst (v := -1) X.1 X.2.1 dX6_put_7 (by decide) ?_
    obtain ⟨rfl, rfl, rfl, rfl, rfl⟩ := zi5 hf
    exact ze_retI X hr hlk hW (by (try dsimp only); omega) (by (try dsimp only); omega) dX6_put_8
end

/-! LeastPatterns.empty(I)I -/
def f_X6_empty (F : Nat) (K : zK) (I : zI) (R : zR) (a0 : Nat) (x1 : Int32) : Option (Int32 × zI × zR) :=
  zbd (f_X6_noRegister F K I R x1) fun v1 =>
  if v1 = (0 : Int32) then
    zbd (some (R a0 3)) fun o4 =>
    zbd (zdr K o4 14) fun a5 =>
    zbd (f_X4_term F K I R a5 x1) fun o8 =>
    zcs o8 (
      some ((-2 : Int32), I, R)
    ) fun a10 =>
      zbd2 (f_X6_remember F K I R a0) fun I12 R13 =>
      zbd (some (R13 a0 3)) fun o15 =>
      zbd (zdr K o15 14) fun a16 =>
      zbd (f_X4_hold F K I12 R13 a16 x1 none) fun R19 =>
      if (K a10).1 = 15 then
      some (I12 a10 3, I12, R19)
      else none
  else
    some ((-1 : Int32), I, R)
section
variable {p : Program} {l : Launch} {e : Env} {s : State} {m : MethodId} {args : Array Value} {below : List Frame} {meth : Method} {c : Code} {D : zD} {B n n0 n' fd ld : Nat} {K K0 K' : zK} {I I' : zI} {R R' : zR} {H : Heap} {locs : List Loc} {ls : Array Slot} {r : Int32}
set_option maxRecDepth 100000 in
set_option maxHeartbeats 4000000 in
theorem c_X6_empty (l : Launch) (D : zD) (B n : Nat) {F : Nat} {K : zK} {I : zI} {R : zR} {a0 : Nat} {x1 : Int32} {r : Int32} {I' : zI} {R' : zR} (hK0 : (K a0).1 = 16) (hf : f_X6_empty F K I R a0 x1 = some (r, I', R')) : zM l yX6_empty cX6_empty 3 (some .int) ({ frames := 4, cells := 0, slots := 0, locals := 105 } : Room) D B n K I R [.ref (B + a0), .int x1] (zQi D (zOwn B K (B + n)) r B n K I' R') := by
  refine ze_entry (lv0 := [(0, .ref (B + a0)), (1, .int x1)]) (by decide) (by simp [lg_sl, zcat, zcat_i, zcat_r, zcat_l]) (by simp [lv_args, zcat, zcat_i, zcat_r, zcat_l]) (fun p e s m below meth c X hr hlk hin hW ls hl => ?_)
  unfold f_X6_empty at hf
  refine lv_iload_n X.1 X.2.1 dX6_empty_0 rfl (lv_at hl 1 rfl) ?_
  obtain ⟨v1, h2, hg⟩ := zh_bd hf
  replace hf := hg
  refine ze_aftI0 (ze_runS (As := [.int x1]) (rest := []) X 69 (c_X6_noRegister l D B n h2) vX6_noRegister kml_X6_69 hW ⟨by decide, by decide⟩ rfl hl.1 rfl (Nat.le_of_ble_eq_true rfl) ⟨Nat.le_refl _, Nat.le_refl _⟩ dX6_empty_1) hW (fun H locs hV => ?_)
  replace hW := hV
  refine lv_if_eq (tgt := 9) X.1 X.2.1 dX6_empty_4 (by decide) (fun c3 => ?_) (fun c3 => ?_)
  · replace hf := zif_pos c3 hf
    refine lv_aload_n X.1 X.2.1 dX6_empty_9 rfl (lv_at hl 0 rfl) ?_
    refine ze_gtR X 6 3 23 (RX6, TX6, 11) rfl hf hW hK0 rfl (by decide) kfl_X6_23 dX6_empty_10 (fun o4 hg => ?_)
    replace hf := hg
    refine lv_iload_n X.1 X.2.1 dX6_empty_13 rfl (lv_at hl 1 rfl) ?_
    obtain ⟨a5, rfl, k7, hg⟩ := zh_dr hf
    replace hf := hg
    obtain ⟨o8, h9, hg⟩ := zh_bd hf
    replace hf := hg
    refine ze_aftQ0 (ze_runV (As := [.int x1]) (rest := []) X 4 107 (c_X4_term l D B n k7 h9) vX4_term kml_X6_107 hW k7 rfl rfl ⟨by decide, by decide⟩ rfl hl.1 rfl (Nat.le_of_ble_eq_true rfl) ⟨Nat.le_refl _, Nat.le_refl _⟩ dX6_empty_14) hW (fun H locs hV => ?_)
    replace hW := hV
    refine ze_astore_n (i := 2) (lv' := [(2, zrf B o8), (0, .ref (B + a0)), (1, .int x1)]) X.1 X.2.1 dX6_empty_17 rfl hl (by decide) rfl (fun ls hk => ?_)
    replace hl := hk
    refine ze_aload_n X.1 X.2.1 dX6_empty_18 rfl (lv_at hl 0 rfl) ?_
    refine ze_ifnonnull (tgt := 25) X.1 X.2.1 dX6_empty_19 (by decide) (fun a10 c11 => ?_) (fun c11 => ?_)
    · replace hf := zcs_some c11 hf
      subst c11
      refine lv_aload_n X.1 X.2.1 dX6_empty_25 rfl (lv_at hl 1 rfl) ?_
      obtain ⟨I12, R13, h14, hg⟩ := zh_bd2 hf
      replace hf := hg
      refine ze_aftV0 (ze_runV (As := []) (rest := []) X 6 95 (c_X6_remember l D B n hK0 h14) vX6_remember kml_X6_95 hW hK0 rfl rfl ⟨by decide, by decide⟩ rfl hl.1 rfl (Nat.le_of_ble_eq_true rfl) ⟨Nat.le_refl _, Nat.le_refl _⟩ dX6_empty_26) hW (fun H locs hV => ?_)
      replace hW := hV
      refine lv_aload_n X.1 X.2.1 dX6_empty_29 rfl (lv_at hl 1 rfl) ?_
      refine ze_gtR X 6 3 23 (RX6, TX6, 11) rfl hf hW hK0 rfl (by decide) kfl_X6_23 dX6_empty_30 (fun o15 hg => ?_)
      replace hf := hg
      refine lv_iload_n X.1 X.2.1 dX6_empty_33 rfl (lv_at hl 2 rfl) ?_
      refine lv_null X.1 X.2.1 dX6_empty_34 ?_
      obtain ⟨a16, rfl, k18, hg⟩ := zh_dr hf
      replace hf := hg
      obtain ⟨R19, h20, hg⟩ := zh_bd hf
      replace hf := hg
      refine ze_aftV0 (ze_runV (As := [.int x1, .null]) (rest := []) X 4 98 (c_X4_hold l D B n k18 h20) vX4_hold kml_X6_98 hW k18 rfl rfl ⟨by decide, by decide⟩ rfl hl.1 rfl (Nat.le_of_ble_eq_true rfl) ⟨Nat.le_refl _, Nat.le_refl _⟩ dX6_empty_35) hW (fun H locs hV => ?_)
      replace hW := hV
      refine lv_aload_n X.1 X.2.1 dX6_empty_38 rfl (lv_at hl 0 rfl) ?_
      obtain ⟨k21, hg⟩ := zh_if hf
      replace hf := hg
      refine ze_getIN X 5 3 102 (RX5, TX5, 4) rfl hW k21 rfl (by decide) kfl_X6_102 dX6_empty_39 ?_
      obtain ⟨rfl, rfl, rfl⟩ := zi3 hf
      exact ze_retI X hr hlk hW (Nat.le_refl _) (Nat.le_refl _) dX6_empty_42
    · replace hf := zcs_none c11 hf
      subst c11
      refine lv_bipush (v := -2) X.1 X.2.1 dX6_empty_22 (by decide) ?_
      obtain ⟨rfl, rfl, rfl⟩ := zi3 hf
      exact ze_retI X hr hlk hW (Nat.le_refl _) (Nat.le_refl _) dX6_empty_24
  · replace hf := zif_neg c3 hf
    refine lv_iconst (v := -1) X.1 X.2.1 dX6_empty_7 (by decide) ?_
    obtain ⟨rfl, rfl, rfl⟩ := zi3 hf
    exact ze_retI X hr hlk hW (Nat.le_refl _) (Nat.le_refl _) dX6_empty_8
end

/-! LeastPatterns$State.choose(II)V -/
def f_X4_choose (F : Nat) (K : zK) (I : zI) (R : zR) (a0 : Nat) (x1 : Int32) (x2 : Int32) : Option (zI) :=
  if x1 < (0 : Int32) then
    some I
  else
    zbd (some (R a0 1)) fun o2 =>
    zbd (zdr K o2 1) fun a3 =>
    if (zln K a3) ≤ x1 then
      some I
    else
      zbd (some (R a0 1)) fun o7 =>
      zbd (zdr K o7 1) fun a8 =>
      zbd (zwr K I a8 x1 x2) fun I11 =>
      some I11
section
variable {p : Program} {l : Launch} {e : Env} {s : State} {m : MethodId} {args : Array Value} {below : List Frame} {meth : Method} {c : Code} {D : zD} {B n n0 n' fd ld : Nat} {K K0 K' : zK} {I I' : zI} {R R' : zR} {H : Heap} {locs : List Loc} {ls : Array Slot} {r : Int32}
set_option maxRecDepth 100000 in
set_option maxHeartbeats 4000000 in
theorem c_X4_choose (l : Launch) (D : zD) (B n : Nat) {F : Nat} {K : zK} {I : zI} {R : zR} {a0 : Nat} {x1 : Int32} {x2 : Int32} {I' : zI} (hK0 : (K a0).1 = 14) (hf : f_X4_choose F K I R a0 x1 x2 = some I') : zM l yX4_choose cX4_choose 3 (none) ({ frames := 1, cells := 0, slots := 0, locals := 40 } : Room) D B n K I R [.ref (B + a0), .int x1, .int x2] (zQv D (zOwn B K (B + n)) B n K I' R) := by
  refine ze_entry (lv0 := [(0, .ref (B + a0)), (1, .int x1), (2, .int x2)]) (by decide) (by simp [lg_sl, zcat, zcat_i, zcat_r, zcat_l]) (by simp [lv_args, zcat, zcat_i, zcat_r, zcat_l]) (fun p e s m below meth c X hr hlk hin hW ls hl => ?_)
  unfold f_X4_choose at hf
  refine lv_iload_n X.1 X.2.1 dX4_choose_0 rfl (lv_at hl 1 rfl) ?_
  refine lv_if_lt (tgt := 20) X.1 X.2.1 dX4_choose_1 (by decide) (fun c1 => ?_) (fun c1 => ?_)
  · replace hf := zif_pos c1 hf
    obtain rfl := zi1 hf
    exact ze_retV X hr hlk hW (Nat.le_refl _) (Nat.le_refl _) dX4_choose_20
  · replace hf := zif_neg c1 hf
    refine lv_iload_n X.1 X.2.1 dX4_choose_4 rfl (lv_at hl 1 rfl) ?_
    refine lv_aload_n X.1 X.2.1 dX4_choose_5 rfl (lv_at hl 0 rfl) ?_
    refine ze_gtR X 4 1 17 (RX4, TX4, 2) rfl hf hW hK0 rfl (by decide) kfl_X4_17 dX4_choose_6 (fun o2 hg => ?_)
    replace hf := hg
    obtain ⟨a3, rfl, k5, hg⟩ := zh_dr hf
    replace hf := hg
    refine ze_alen X 1 (by decide) hW k5 dX4_choose_9 ?_
    refine lv_icmp_ge (tgt := 20) X.1 X.2.1 dX4_choose_10 (by decide) (fun c6 => ?_) (fun c6 => ?_)
    · replace hf := zif_pos c6 hf
      obtain rfl := zi1 hf
      exact ze_retV X hr hlk hW (Nat.le_refl _) (Nat.le_refl _) dX4_choose_20
    · replace hf := zif_neg c6 hf
      refine lv_aload_n X.1 X.2.1 dX4_choose_13 rfl (lv_at hl 0 rfl) ?_
      refine ze_gtR X 4 1 17 (RX4, TX4, 2) rfl hf hW hK0 rfl (by decide) kfl_X4_17 dX4_choose_14 (fun o7 hg => ?_)
      replace hf := hg
      refine lv_iload_n X.1 X.2.1 dX4_choose_17 rfl (lv_at hl 1 rfl) ?_
      refine lv_iload_n X.1 X.2.1 dX4_choose_18 rfl (lv_at hl 2 rfl) ?_
      obtain ⟨a8, rfl, k10, hg⟩ := zh_dr hf
      replace hf := hg
      refine ze_iast X hf hW k10 dX4_choose_19 (fun I11 H locs hg hV => ?_)
      replace hf := hg
      replace hW := hV
      obtain rfl := zi1 hf
      exact ze_retV X hr hlk hW (Nat.le_refl _) (Nat.le_refl _) dX4_choose_20
end

/-! LeastPatterns.set(II)I -/
def f_X6_set_38 (F : Nat) (K : zK) (a0 : Nat)  (I : zI) (R : zR) (x1 : Int32) (x2 : Int32) (s0 : Int32) (s1 : Int32) : Option (Int32 × zI × zR) :=
  zbd (f_X6_outside F K I R s0 s1) fun v1 =>
  if v1 = (0 : Int32) then
    zbd (some (R a0 3)) fun o4 =>
    zbd (zdr K o4 14) fun a5 =>
    zbd (f_X4_setting F K I R a5 x1) fun v8 =>
    zbd2 (f_X6_remember F K I R a0) fun I10 R11 =>
    zbd (some (R11 a0 3)) fun o13 =>
    zbd (zdr K o13 14) fun a14 =>
    zbd (f_X4_choose F K I10 R11 a14 x1 x2) fun I17 =>
    some (v8, I17, R11)
  else
    some ((-1 : Int32), I, R)
def f_X6_set_25 (F : Nat) (K : zK) (a0 : Nat)  (I : zI) (R : zR) (x1 : Int32) (x2 : Int32) (s0 : Int32) : Option (Int32 × zI × zR) :=
  if s0 = (0 : Int32) then
    f_X6_set_38 F K a0 I R x1 x2 x2 (1 : Int32)
  else
    f_X6_set_38 F K a0 I R x1 x2 x2 (8191 : Int32)
def f_X6_set_20 (F : Nat) (K : zK) (a0 : Nat)  (I : zI) (R : zR) (x1 : Int32) (x2 : Int32) : Option (Int32 × zI × zR) :=
  f_X6_set_25 F K a0 I R x1 x2 (1 : Int32)
def f_X6_set (F : Nat) (K : zK) (I : zI) (R : zR) (a0 : Nat) (x1 : Int32) (x2 : Int32) : Option (Int32 × zI × zR) :=
  zbd (f_X6_outside F K I R x1 (3 : Int32)) fun v20 =>
  if v20 = (0 : Int32) then
    if x1 = (2 : Int32) then
      f_X6_set_20 F K a0 I R x1 x2
    else
      if x1 = (3 : Int32) then
        f_X6_set_20 F K a0 I R x1 x2
      else
        f_X6_set_25 F K a0 I R x1 x2 (0 : Int32)
  else
    some ((-1 : Int32), I, R)
section
variable {p : Program} {l : Launch} {e : Env} {s : State} {m : MethodId} {args : Array Value} {below : List Frame} {meth : Method} {c : Code} {D : zD} {B n n0 n' fd ld : Nat} {K K0 K' : zK} {I I' : zI} {R R' : zR} {H : Heap} {locs : List Loc} {ls : Array Slot} {r : Int32}
set_option maxRecDepth 100000 in
set_option maxHeartbeats 4000000 in
theorem w_X6_set_38 {F : Nat} {a0 : Nat}  (X : zX p s m c cX6_set 5 RX6 D) (hr : meth.sig.returnType = some .int) (hlk : meth.locks = false) (hK0 : (K a0).1 = 16)  {x1 : Int32} {x2 : Int32} {s0 : Int32} {s1 : Int32} (hf : f_X6_set_38 F K a0  I R x1 x2 s0 s1 = some (r, I', R')) (hW : zS (zOwn B K (B + n)) D B n K I R s.heap H locs) (hl : lv_has ls 5 [(0, .ref (B + a0)), (1, .int x1), (2, .int x2)]) : W p l e ({ frames := 4, cells := 0, slots := 0, locals := 105 } : Room) s m args below meth c H locs 0 0 (MQ below (zQi D (zOwn B K (B + n)) r B n K I' R') args s 0 0 (zOwn B K (B + n))) (F0 m 38 ls [.int s1, .int s0]) := by
  unfold f_X6_set_38 at hf
  obtain ⟨v1, h2, hg⟩ := zh_bd hf
  replace hf := hg
  refine ze_aftI0 (ze_runS (As := [.int s0, .int s1]) (rest := []) X 65 (c_X6_outside l D B n h2) vX6_outside kml_X6_65 hW ⟨by decide, by decide⟩ rfl hl.1 rfl (Nat.le_of_ble_eq_true rfl) ⟨Nat.le_refl _, Nat.le_refl _⟩ dX6_set_38) hW (fun H locs hV => ?_)
  replace hW := hV
  refine lv_if_eq (tgt := 46) X.1 X.2.1 dX6_set_41 (by decide) (fun c3 => ?_) (fun c3 => ?_)
  · replace hf := zif_pos c3 hf
    refine lv_aload_n X.1 X.2.1 dX6_set_46 rfl (lv_at hl 0 rfl) ?_
    refine ze_gtR X 6 3 23 (RX6, TX6, 11) rfl hf hW hK0 rfl (by decide) kfl_X6_23 dX6_set_47 (fun o4 hg => ?_)
    replace hf := hg
    refine lv_iload_n X.1 X.2.1 dX6_set_50 rfl (lv_at hl 1 rfl) ?_
    obtain ⟨a5, rfl, k7, hg⟩ := zh_dr hf
    replace hf := hg
    obtain ⟨v8, h9, hg⟩ := zh_bd hf
    replace hf := hg
    refine ze_aftI0 (ze_runV (As := [.int x1]) (rest := []) X 4 83 (c_X4_setting l D B n k7 h9) vX4_setting kml_X6_83 hW k7 rfl rfl ⟨by decide, by decide⟩ rfl hl.1 rfl (Nat.le_of_ble_eq_true rfl) ⟨Nat.le_refl _, Nat.le_refl _⟩ dX6_set_51) hW (fun H locs hV => ?_)
    replace hW := hV
    refine lv_istore (lv' := [(4, .int v8), (0, .ref (B + a0)), (1, .int x1), (2, .int x2)]) X.1 X.2.1 dX6_set_54 hl (by decide) rfl (fun ls hk => ?_)
    replace hl := hk
    refine lv_aload_n X.1 X.2.1 dX6_set_56 rfl (lv_at hl 1 rfl) ?_
    obtain ⟨I10, R11, h12, hg⟩ := zh_bd2 hf
    replace hf := hg
    refine ze_aftV0 (ze_runV (As := []) (rest := []) X 6 95 (c_X6_remember l D B n hK0 h12) vX6_remember kml_X6_95 hW hK0 rfl rfl ⟨by decide, by decide⟩ rfl hl.1 rfl (Nat.le_of_ble_eq_true rfl) ⟨Nat.le_refl _, Nat.le_refl _⟩ dX6_set_57) hW (fun H locs hV => ?_)
    replace hW := hV
    refine lv_aload_n X.1 X.2.1 dX6_set_60 rfl (lv_at hl 1 rfl) ?_
    refine ze_gtR X 6 3 23 (RX6, TX6, 11) rfl hf hW hK0 rfl (by decide) kfl_X6_23 dX6_set_61 (fun o13 hg => ?_)
    replace hf := hg
    refine lv_iload_n X.1 X.2.1 dX6_set_64 rfl (lv_at hl 2 rfl) ?_
    refine lv_iload_n X.1 X.2.1 dX6_set_65 rfl (lv_at hl 3 rfl) ?_
    obtain ⟨a14, rfl, k16, hg⟩ := zh_dr hf
    replace hf := hg
    obtain ⟨I17, h18, hg⟩ := zh_bd hf
    replace hf := hg
    refine ze_aftV0 (ze_runV (As := [.int x1, .int x2]) (rest := []) X 4 111 (c_X4_choose l D B n k16 h18) vX4_choose kml_X6_111 hW k16 rfl rfl ⟨by decide, by decide⟩ rfl hl.1 rfl (Nat.le_of_ble_eq_true rfl) ⟨Nat.le_refl _, Nat.le_refl _⟩ dX6_set_66) hW (fun H locs hV => ?_)
    replace hW := hV
    refine lv_iload X.1 X.2.1 dX6_set_69 (lv_at hl 0 rfl) ?_
    obtain ⟨rfl, rfl, rfl⟩ := zi3 hf
    exact ze_retI X hr hlk hW (Nat.le_refl _) (Nat.le_refl _) dX6_set_71
  · replace hf := zif_neg c3 hf
    refine lv_iconst (v := -1) X.1 X.2.1 dX6_set_44 (by decide) ?_
    obtain ⟨rfl, rfl, rfl⟩ := zi3 hf
    exact ze_retI X hr hlk hW (Nat.le_refl _) (Nat.le_refl _) dX6_set_45
set_option maxRecDepth 100000 in
set_option maxHeartbeats 4000000 in
theorem w_X6_set_25 {F : Nat} {a0 : Nat}  (X : zX p s m c cX6_set 5 RX6 D) (hr : meth.sig.returnType = some .int) (hlk : meth.locks = false) (hK0 : (K a0).1 = 16)  {x1 : Int32} {x2 : Int32} {s0 : Int32} (hf : f_X6_set_25 F K a0  I R x1 x2 s0 = some (r, I', R')) (hW : zS (zOwn B K (B + n)) D B n K I R s.heap H locs) (hl : lv_has ls 5 [(0, .ref (B + a0)), (1, .int x1), (2, .int x2)]) : W p l e ({ frames := 4, cells := 0, slots := 0, locals := 105 } : Room) s m args below meth c H locs 0 0 (MQ below (zQi D (zOwn B K (B + n)) r B n K I' R') args s 0 0 (zOwn B K (B + n))) (F0 m 25 ls [.int s0]) := by
  unfold f_X6_set_25 at hf
  refine lv_istore_n (i := 3) (lv' := [(3, .int s0), (0, .ref (B + a0)), (1, .int x1), (2, .int x2)]) X.1 X.2.1 dX6_set_25 rfl hl (by decide) rfl (fun ls hk => ?_)
  replace hl := hk
  refine lv_iload_n X.1 X.2.1 dX6_set_26 rfl (lv_at hl 3 rfl) ?_
  refine lv_iload_n X.1 X.2.1 dX6_set_27 rfl (lv_at hl 0 rfl) ?_
  refine lv_if_eq (tgt := 37) X.1 X.2.1 dX6_set_28 (by decide) (fun c19 => ?_) (fun c19 => ?_)
  · replace hf := zif_pos c19 hf
    refine lv_iconst (v := 1) X.1 X.2.1 dX6_set_37 (by decide) ?_
    exact w_X6_set_38 X hr hlk hK0 hf hW (lv_sub hl [1, 2, 3] rfl)
  · replace hf := zif_neg c19 hf
    refine lv_sipush (v := 8191) X.1 X.2.1 dX6_set_31 (by decide) ?_
    refine lv_goto (tgt := 38) X.1 X.2.1 dX6_set_34 (by decide) ?_
    exact w_X6_set_38 X hr hlk hK0 hf hW (lv_sub hl [1, 2, 3] rfl)
set_option maxRecDepth 100000 in
set_option maxHeartbeats 4000000 in
theorem w_X6_set_20 {F : Nat} {a0 : Nat}  (X : zX p s m c cX6_set 5 RX6 D) (hr : meth.sig.returnType = some .int) (hlk : meth.locks = false) (hK0 : (K a0).1 = 16)  {x1 : Int32} {x2 : Int32} (hf : f_X6_set_20 F K a0  I R x1 x2 = some (r, I', R')) (hW : zS (zOwn B K (B + n)) D B n K I R s.heap H locs) (hl : lv_has ls 5 [(0, .ref (B + a0)), (1, .int x1), (2, .int x2)]) : W p l e ({ frames := 4, cells := 0, slots := 0, locals := 105 } : Room) s m args below meth c H locs 0 0 (MQ below (zQi D (zOwn B K (B + n)) r B n K I' R') args s 0 0 (zOwn B K (B + n))) (F0 m 20 ls []) := by
  unfold f_X6_set_20 at hf
  refine lv_iconst (v := 1) X.1 X.2.1 dX6_set_20 (by decide) ?_
  refine lv_goto (tgt := 25) X.1 X.2.1 dX6_set_21 (by decide) ?_
  exact w_X6_set_25 X hr hlk hK0 hf hW hl
set_option maxRecDepth 100000 in
set_option maxHeartbeats 4000000 in
theorem c_X6_set (l : Launch) (D : zD) (B n : Nat) {F : Nat} {K : zK} {I : zI} {R : zR} {a0 : Nat} {x1 : Int32} {x2 : Int32} {r : Int32} {I' : zI} {R' : zR} (hK0 : (K a0).1 = 16) (hf : f_X6_set F K I R a0 x1 x2 = some (r, I', R')) : zM l yX6_set cX6_set 5 (some .int) ({ frames := 4, cells := 0, slots := 0, locals := 105 } : Room) D B n K I R [.ref (B + a0), .int x1, .int x2] (zQi D (zOwn B K (B + n)) r B n K I' R') := by
  refine ze_entry (lv0 := [(0, .ref (B + a0)), (1, .int x1), (2, .int x2)]) (by decide) (by simp [lg_sl, zcat, zcat_i, zcat_r, zcat_l]) (by simp [lv_args, zcat, zcat_i, zcat_r, zcat_l]) (fun p e s m below meth c X hr hlk hin hW ls hl => ?_)
  unfold f_X6_set at hf
  refine lv_iload_n X.1 X.2.1 dX6_set_0 rfl (lv_at hl 1 rfl) ?_
  refine lv_iconst (v := 3) X.1 X.2.1 dX6_set_1 (by decide) ?_
  obtain ⟨v20, h21, hg⟩ := zh_bd hf
  replace hf := hg
  refine ze_aftI0 (ze_runS (As := [.int x1, .int (3 : Int32)]) (rest := []) X 65 (c_X6_outside l D B n h21) vX6_outside kml_X6_65 hW ⟨by decide, by decide⟩ rfl hl.1 rfl (Nat.le_of_ble_eq_true rfl) ⟨Nat.le_refl _, Nat.le_refl _⟩ dX6_set_2) hW (fun H locs hV => ?_)
  replace hW := hV
  refine lv_if_eq (tgt := 10) X.1 X.2.1 dX6_set_5 (by decide) (fun c22 => ?_) (fun c22 => ?_)
  · replace hf := zif_pos c22 hf
    refine lv_iload_n X.1 X.2.1 dX6_set_10 rfl (lv_at hl 1 rfl) ?_
    refine lv_iconst (v := 2) X.1 X.2.1 dX6_set_11 (by decide) ?_
    refine lv_icmp_eq (tgt := 20) X.1 X.2.1 dX6_set_12 (by decide) (fun c23 => ?_) (fun c23 => ?_)
    · replace hf := zif_pos c23 hf
      exact w_X6_set_20 X hr hlk hK0 hf hW hl
    · replace hf := zif_neg c23 hf
      refine lv_iload_n X.1 X.2.1 dX6_set_15 rfl (lv_at hl 1 rfl) ?_
      refine lv_iconst (v := 3) X.1 X.2.1 dX6_set_16 (by decide) ?_
      refine lv_icmp_ne (tgt := 24) X.1 X.2.1 dX6_set_17 (by decide) (fun c24 => ?_) (fun c24 => ?_)
      · replace hf := zif_neg c24 hf
        refine lv_iconst (v := 0) X.1 X.2.1 dX6_set_24 (by decide) ?_
        exact w_X6_set_25 X hr hlk hK0 hf hW hl
      · replace hf := zif_pos c24 hf
        exact w_X6_set_20 X hr hlk hK0 hf hW hl
  · replace hf := zif_neg c22 hf
    refine lv_iconst (v := -1) X.1 X.2.1 dX6_set_8 (by decide) ?_
    obtain ⟨rfl, rfl, rfl⟩ := zi3 hf
    exact ze_retI X hr hlk hW (Nat.le_refl _) (Nat.le_refl _) dX6_set_9
end

/-! LeastPatterns.node(III)I -/
def f_X6_node (F : Nat) (K : zK) (I : zI) (R : zR) (a0 : Nat) (x1 : Int32) (x2 : Int32) (x3 : Int32) : Option (Int32) :=
  zbd (f_X6_noRegister F K I R x1) fun v1 =>
  if v1 = (0 : Int32) then
    if x2 < (0 : Int32) then
      some (-1 : Int32)
    else
      zbd (f_X6_outside F K I R x3 (4 : Int32)) fun v5 =>
      if v5 = (0 : Int32) then
        zbd (some (R a0 3)) fun o8 =>
        zbd (zdr K o8 14) fun a9 =>
        zbd (f_X4_term F K I R a9 x1) fun o12 =>
        zcs o12 (
          some (-2 : Int32)
        ) fun a14 =>
          if (K a14).1 = 15 then
          if x2 < (I a14 3) then
            if x3 = 0 then
              zbd (f_X5_sortOf F K I R a14 x2) fun v18 =>
              some v18
            else
            if x3 = 1 then
              zbd (f_X5_numberOf F K I R a14 x2) fun v21 =>
              some v21
            else
            if x3 = 2 then
              zbd (f_X5_argumentsOf F K I R a14 x2) fun v24 =>
              some v24
            else
            if x3 = 3 then
              zbd (f_X5_depthOf F K I R a14 x2) fun v27 =>
              some v27
            else
              zbd (f_X5_spanOf F K I R a14 x2) fun v30 =>
              some v30
          else
            some (-9 : Int32)
          else none
      else
        some (-1 : Int32)
  else
    some (-1 : Int32)
section
variable {p : Program} {l : Launch} {e : Env} {s : State} {m : MethodId} {args : Array Value} {below : List Frame} {meth : Method} {c : Code} {D : zD} {B n n0 n' fd ld : Nat} {K K0 K' : zK} {I I' : zI} {R R' : zR} {H : Heap} {locs : List Loc} {ls : Array Slot} {r : Int32}
set_option maxRecDepth 100000 in
set_option maxHeartbeats 4000000 in
theorem c_X6_node (l : Launch) (D : zD) (B n : Nat) {F : Nat} {K : zK} {I : zI} {R : zR} {a0 : Nat} {x1 : Int32} {x2 : Int32} {x3 : Int32} {r : Int32} (hK0 : (K a0).1 = 16) (hf : f_X6_node F K I R a0 x1 x2 x3 = some r) : zM l yX6_node cX6_node 5 (some .int) ({ frames := 3, cells := 0, slots := 0, locals := 81 } : Room) D B n K I R [.ref (B + a0), .int x1, .int x2, .int x3] (zQi D (zOwn B K (B + n)) r B n K I R) := by
  refine ze_entry (lv0 := [(0, .ref (B + a0)), (1, .int x1), (2, .int x2), (3, .int x3)]) (by decide) (by simp [lg_sl, zcat, zcat_i, zcat_r, zcat_l]) (by simp [lv_args, zcat, zcat_i, zcat_r, zcat_l]) (fun p e s m below meth c X hr hlk hin hW ls hl => ?_)
  unfold f_X6_node at hf
  refine lv_iload_n X.1 X.2.1 dX6_node_0 rfl (lv_at hl 1 rfl) ?_
  obtain ⟨v1, h2, hg⟩ := zh_bd hf
  replace hf := hg
  refine ze_aftI0 (ze_runS (As := [.int x1]) (rest := []) X 69 (c_X6_noRegister l D B n h2) vX6_noRegister kml_X6_69 hW ⟨by decide, by decide⟩ rfl hl.1 rfl (Nat.le_of_ble_eq_true rfl) ⟨Nat.le_refl _, Nat.le_refl _⟩ dX6_node_1) hW (fun H locs hV => ?_)
  replace hW := hV
  refine lv_if_ne (tgt := 19) X.1 X.2.1 dX6_node_4 (by decide) (fun c3 => ?_) (fun c3 => ?_)
  · replace hf := zif_neg c3 hf
    refine lv_iconst (v := -1) X.1 X.2.1 dX6_node_19 (by decide) ?_
    obtain rfl := zi1 hf
    exact ze_retI X hr hlk hW (Nat.le_refl _) (Nat.le_refl _) dX6_node_20
  · replace hf := zif_pos c3 hf
    refine lv_iload_n X.1 X.2.1 dX6_node_7 rfl (lv_at hl 2 rfl) ?_
    refine lv_if_lt (tgt := 19) X.1 X.2.1 dX6_node_8 (by decide) (fun c4 => ?_) (fun c4 => ?_)
    · replace hf := zif_pos c4 hf
      refine lv_iconst (v := -1) X.1 X.2.1 dX6_node_19 (by decide) ?_
      obtain rfl := zi1 hf
      exact ze_retI X hr hlk hW (Nat.le_refl _) (Nat.le_refl _) dX6_node_20
    · replace hf := zif_neg c4 hf
      refine lv_iload_n X.1 X.2.1 dX6_node_11 rfl (lv_at hl 3 rfl) ?_
      refine lv_iconst (v := 4) X.1 X.2.1 dX6_node_12 (by decide) ?_
      obtain ⟨v5, h6, hg⟩ := zh_bd hf
      replace hf := hg
      refine ze_aftI0 (ze_runS (As := [.int x3, .int (4 : Int32)]) (rest := []) X 65 (c_X6_outside l D B n h6) vX6_outside kml_X6_65 hW ⟨by decide, by decide⟩ rfl hl.1 rfl (Nat.le_of_ble_eq_true rfl) ⟨Nat.le_refl _, Nat.le_refl _⟩ dX6_node_13) hW (fun H locs hV => ?_)
      replace hW := hV
      refine lv_if_eq (tgt := 21) X.1 X.2.1 dX6_node_16 (by decide) (fun c7 => ?_) (fun c7 => ?_)
      · replace hf := zif_pos c7 hf
        refine lv_aload_n X.1 X.2.1 dX6_node_21 rfl (lv_at hl 0 rfl) ?_
        refine ze_gtR X 6 3 23 (RX6, TX6, 11) rfl hf hW hK0 rfl (by decide) kfl_X6_23 dX6_node_22 (fun o8 hg => ?_)
        replace hf := hg
        refine lv_iload_n X.1 X.2.1 dX6_node_25 rfl (lv_at hl 1 rfl) ?_
        obtain ⟨a9, rfl, k11, hg⟩ := zh_dr hf
        replace hf := hg
        obtain ⟨o12, h13, hg⟩ := zh_bd hf
        replace hf := hg
        refine ze_aftQ0 (ze_runV (As := [.int x1]) (rest := []) X 4 107 (c_X4_term l D B n k11 h13) vX4_term kml_X6_107 hW k11 rfl rfl ⟨by decide, by decide⟩ rfl hl.1 rfl (Nat.le_of_ble_eq_true rfl) ⟨Nat.le_refl _, Nat.le_refl _⟩ dX6_node_26) hW (fun H locs hV => ?_)
        replace hW := hV
        refine ze_astore (lv' := [(4, zrf B o12), (0, .ref (B + a0)), (1, .int x1), (2, .int x2), (3, .int x3)]) X.1 X.2.1 dX6_node_29 hl (by decide) rfl (fun ls hk => ?_)
        replace hl := hk
        refine ze_aload X.1 X.2.1 dX6_node_31 (lv_at hl 0 rfl) ?_
        refine ze_ifnonnull (tgt := 39) X.1 X.2.1 dX6_node_33 (by decide) (fun a14 c15 => ?_) (fun c15 => ?_)
        · replace hf := zcs_some c15 hf
          subst c15
          refine lv_iload_n X.1 X.2.1 dX6_node_39 rfl (lv_at hl 3 rfl) ?_
          refine lv_aload X.1 X.2.1 dX6_node_40 (lv_at hl 0 rfl) ?_
          obtain ⟨k16, hg⟩ := zh_if hf
          replace hf := hg
          refine ze_getIN X 5 3 102 (RX5, TX5, 4) rfl hW k16 rfl (by decide) kfl_X6_102 dX6_node_42 ?_
          refine lv_icmp_lt (tgt := 51) X.1 X.2.1 dX6_node_45 (by decide) (fun c17 => ?_) (fun c17 => ?_)
          · replace hf := zif_pos c17 hf
            refine lv_iload_n X.1 X.2.1 dX6_node_51 rfl (lv_at hl 4 rfl) ?_
            by_cases c20 : x3 = 0
            · replace hf := zif_pos c20 hf
              refine lv_tableIn (tgt := 84) X.1 X.2.1 dX6_node_52 (by rw [c20]; decide) (by rw [c20]; decide) (by rw [c20]; rfl) (by decide) ?_
              refine lv_aload X.1 X.2.1 dX6_node_84 (lv_at hl 0 rfl) ?_
              refine lv_iload_n X.1 X.2.1 dX6_node_86 rfl (lv_at hl 3 rfl) ?_
              obtain ⟨v18, h19, hg⟩ := zh_bd hf
              replace hf := hg
              refine ze_aftI0 (ze_runV (As := [.int x2]) (rest := []) X 5 115 (c_X5_sortOf l D B n k16 h19) vX5_sortOf kml_X6_115 hW k16 rfl rfl ⟨by decide, by decide⟩ rfl hl.1 rfl (Nat.le_of_ble_eq_true rfl) ⟨Nat.le_refl _, Nat.le_refl _⟩ dX6_node_87) hW (fun H locs hV => ?_)
              replace hW := hV
              obtain rfl := zi1 hf
              exact ze_retI X hr hlk hW (Nat.le_refl _) (Nat.le_refl _) dX6_node_90
            replace hf := zif_neg c20 hf
            by_cases c23 : x3 = 1
            · replace hf := zif_pos c23 hf
              refine lv_tableIn (tgt := 91) X.1 X.2.1 dX6_node_52 (by rw [c23]; decide) (by rw [c23]; decide) (by rw [c23]; rfl) (by decide) ?_
              refine lv_aload X.1 X.2.1 dX6_node_91 (lv_at hl 0 rfl) ?_
              refine lv_iload_n X.1 X.2.1 dX6_node_93 rfl (lv_at hl 3 rfl) ?_
              obtain ⟨v21, h22, hg⟩ := zh_bd hf
              replace hf := hg
              refine ze_aftI0 (ze_runV (As := [.int x2]) (rest := []) X 5 118 (c_X5_numberOf l D B n k16 h22) vX5_numberOf kml_X6_118 hW k16 rfl rfl ⟨by decide, by decide⟩ rfl hl.1 rfl (Nat.le_of_ble_eq_true rfl) ⟨Nat.le_refl _, Nat.le_refl _⟩ dX6_node_94) hW (fun H locs hV => ?_)
              replace hW := hV
              obtain rfl := zi1 hf
              exact ze_retI X hr hlk hW (Nat.le_refl _) (Nat.le_refl _) dX6_node_97
            replace hf := zif_neg c23 hf
            by_cases c26 : x3 = 2
            · replace hf := zif_pos c26 hf
              refine lv_tableIn (tgt := 98) X.1 X.2.1 dX6_node_52 (by rw [c26]; decide) (by rw [c26]; decide) (by rw [c26]; rfl) (by decide) ?_
              refine lv_aload X.1 X.2.1 dX6_node_98 (lv_at hl 0 rfl) ?_
              refine lv_iload_n X.1 X.2.1 dX6_node_100 rfl (lv_at hl 3 rfl) ?_
              obtain ⟨v24, h25, hg⟩ := zh_bd hf
              replace hf := hg
              refine ze_aftI0 (ze_runV (As := [.int x2]) (rest := []) X 5 121 (c_X5_argumentsOf l D B n k16 h25) vX5_argumentsOf kml_X6_121 hW k16 rfl rfl ⟨by decide, by decide⟩ rfl hl.1 rfl (Nat.le_of_ble_eq_true rfl) ⟨Nat.le_refl _, Nat.le_refl _⟩ dX6_node_101) hW (fun H locs hV => ?_)
              replace hW := hV
              obtain rfl := zi1 hf
              exact ze_retI X hr hlk hW (Nat.le_refl _) (Nat.le_refl _) dX6_node_104
            replace hf := zif_neg c26 hf
            by_cases c29 : x3 = 3
            · replace hf := zif_pos c29 hf
              refine lv_tableIn (tgt := 105) X.1 X.2.1 dX6_node_52 (by rw [c29]; decide) (by rw [c29]; decide) (by rw [c29]; rfl) (by decide) ?_
              refine lv_aload X.1 X.2.1 dX6_node_105 (lv_at hl 0 rfl) ?_
              refine lv_iload_n X.1 X.2.1 dX6_node_107 rfl (lv_at hl 3 rfl) ?_
              obtain ⟨v27, h28, hg⟩ := zh_bd hf
              replace hf := hg
              refine ze_aftI0 (ze_runV (As := [.int x2]) (rest := []) X 5 124 (c_X5_depthOf l D B n k16 h28) vX5_depthOf kml_X6_124 hW k16 rfl rfl ⟨by decide, by decide⟩ rfl hl.1 rfl (Nat.le_of_ble_eq_true rfl) ⟨Nat.le_refl _, Nat.le_refl _⟩ dX6_node_108) hW (fun H locs hV => ?_)
              replace hW := hV
              obtain rfl := zi1 hf
              exact ze_retI X hr hlk hW (Nat.le_refl _) (Nat.le_refl _) dX6_node_111
            replace hf := zif_neg c29 hf
            refine lv_tableOut (tgt := 112) X.1 X.2.1 dX6_node_52 ?_ (by decide) ?_
            · have hne : ∀ k : Int32, ¬ x3 = k → x3.toInt ≠ k.toInt := fun k h q => h (Int32.toInt_inj.mp q)
              have qc20 := hne 0 c20
              have qc23 := hne 1 c23
              have qc26 := hne 2 c26
              have qc29 := hne 3 c29
              simp at qc20 qc23 qc26 qc29
              omega
            · refine lv_aload X.1 X.2.1 dX6_node_112 (lv_at hl 0 rfl) ?_
              refine lv_iload_n X.1 X.2.1 dX6_node_114 rfl (lv_at hl 3 rfl) ?_
              obtain ⟨v30, h31, hg⟩ := zh_bd hf
              replace hf := hg
              refine ze_aftI0 (ze_runV (As := [.int x2]) (rest := []) X 5 127 (c_X5_spanOf l D B n k16 h31) vX5_spanOf kml_X6_127 hW k16 rfl rfl ⟨by decide, by decide⟩ rfl hl.1 rfl (Nat.le_of_ble_eq_true rfl) ⟨Nat.le_refl _, Nat.le_refl _⟩ dX6_node_115) hW (fun H locs hV => ?_)
              replace hW := hV
              obtain rfl := zi1 hf
              exact ze_retI X hr hlk hW (Nat.le_refl _) (Nat.le_refl _) dX6_node_118
          · replace hf := zif_neg c17 hf
            refine lv_bipush (v := -9) X.1 X.2.1 dX6_node_48 (by decide) ?_
            obtain rfl := zi1 hf
            exact ze_retI X hr hlk hW (Nat.le_refl _) (Nat.le_refl _) dX6_node_50
        · replace hf := zcs_none c15 hf
          subst c15
          refine lv_bipush (v := -2) X.1 X.2.1 dX6_node_36 (by decide) ?_
          obtain rfl := zi1 hf
          exact ze_retI X hr hlk hW (Nat.le_refl _) (Nat.le_refl _) dX6_node_38
      · replace hf := zif_neg c7 hf
        refine lv_iconst (v := -1) X.1 X.2.1 dX6_node_19 (by decide) ?_
        obtain rfl := zi1 hf
        exact ze_retI X hr hlk hW (Nat.le_refl _) (Nat.le_refl _) dX6_node_20
end

/-! java/lang/Integer.bitCount(I)I -/
def f_J6_bitCount_0f7a4 (F : Nat) (K : zK) (I : zI) (R : zR) (x0 : Int32) : Option (Int32) :=
  zbd (some (x0 - (((x0.toUInt32 >>> ((1 : Int32).toUInt32 &&& Int32.toUInt32 31)).toInt32) &&& (1431655765 : Int32)))) fun v1 =>
  zbd (some ((v1 &&& (858993459 : Int32)) + (((v1.toUInt32 >>> ((2 : Int32).toUInt32 &&& Int32.toUInt32 31)).toInt32) &&& (858993459 : Int32)))) fun v2 =>
  zbd (some ((v2 + ((v2.toUInt32 >>> ((4 : Int32).toUInt32 &&& Int32.toUInt32 31)).toInt32)) &&& (252645135 : Int32))) fun v3 =>
  zbd (some (v3 + ((v3.toUInt32 >>> ((8 : Int32).toUInt32 &&& Int32.toUInt32 31)).toInt32))) fun v4 =>
  zbd (some (v4 + ((v4.toUInt32 >>> ((16 : Int32).toUInt32 &&& Int32.toUInt32 31)).toInt32))) fun v5 =>
  some (v5 &&& (63 : Int32))
section
variable {p : Program} {l : Launch} {e : Env} {s : State} {m : MethodId} {args : Array Value} {below : List Frame} {meth : Method} {c : Code} {D : zD} {B n n0 n' fd ld : Nat} {K K0 K' : zK} {I I' : zI} {R R' : zR} {H : Heap} {locs : List Loc} {ls : Array Slot} {r : Int32}
set_option maxRecDepth 100000 in
set_option maxHeartbeats 4000000 in
theorem c_J6_bitCount_0f7a4 (l : Launch) (D : zD) (B n : Nat) {F : Nat} {K : zK} {I : zI} {R : zR} {x0 : Int32} {r : Int32} (hf : f_J6_bitCount_0f7a4 F K I R x0 = some r) : zM l yJ6_bitCount_0f7a4 cJ6_bitCount_0f7a4 1 (some .int) ({ frames := 1, cells := 0, slots := 0, locals := 40 } : Room) D B n K I R [.int x0] (zQi D (zOwn B K (B + n)) r B n K I R) := by
  refine ze_entry (lv0 := [(0, .int x0)]) (by decide) (by simp [lg_sl, zcat, zcat_i, zcat_r, zcat_l]) (by simp [lv_args, zcat, zcat_i, zcat_r, zcat_l]) (fun p e s m below meth c X hr hlk hin hW ls hl => ?_)
  unfold f_J6_bitCount_0f7a4 at hf
  refine lv_iload_n X.1 X.2.1 dJ6_bitCount_0f7a4_0 rfl (lv_at hl 0 rfl) ?_
  refine lv_iload_n X.1 X.2.1 dJ6_bitCount_0f7a4_1 rfl (lv_at hl 0 rfl) ?_
  refine lv_iconst (v := 1) X.1 X.2.1 dJ6_bitCount_0f7a4_2 (by decide) ?_
  refine lv_iushr X.1 X.2.1 dJ6_bitCount_0f7a4_3 rfl ?_
  refine lv_ldcw X.1 X.2.1 X.2.2.2.1 (X.2.2.2.2.use kcn_J6_265 rfl) dJ6_bitCount_0f7a4_4 ?_
  refine lv_iand X.1 X.2.1 dJ6_bitCount_0f7a4_7 ?_
  refine lv_isub X.1 X.2.1 dJ6_bitCount_0f7a4_8 ?_
  refine ze_nm hf (fun v1 hg => ?_)
  replace hf := hg
  refine lv_istore_n (i := 0) (lv' := [(0, .int v1)]) X.1 X.2.1 dJ6_bitCount_0f7a4_9 rfl hl (by decide) rfl (fun ls hk => ?_)
  replace hl := hk
  refine lv_iload_n X.1 X.2.1 dJ6_bitCount_0f7a4_10 rfl (lv_at hl 0 rfl) ?_
  refine lv_ldcw X.1 X.2.1 X.2.2.2.1 (X.2.2.2.2.use kcn_J6_266 rfl) dJ6_bitCount_0f7a4_11 ?_
  refine lv_iand X.1 X.2.1 dJ6_bitCount_0f7a4_14 ?_
  refine lv_iload_n X.1 X.2.1 dJ6_bitCount_0f7a4_15 rfl (lv_at hl 0 rfl) ?_
  refine lv_iconst (v := 2) X.1 X.2.1 dJ6_bitCount_0f7a4_16 (by decide) ?_
  refine lv_iushr X.1 X.2.1 dJ6_bitCount_0f7a4_17 rfl ?_
  refine lv_ldcw X.1 X.2.1 X.2.2.2.1 (X.2.2.2.2.use kcn_J6_266 rfl) dJ6_bitCount_0f7a4_18 ?_
  refine lv_iand X.1 X.2.1 dJ6_bitCount_0f7a4_21 ?_
  refine lv_iadd X.1 X.2.1 dJ6_bitCount_0f7a4_22 ?_
  refine ze_nm hf (fun v2 hg => ?_)
  replace hf := hg
  refine lv_istore_n (i := 0) (lv' := [(0, .int v2)]) X.1 X.2.1 dJ6_bitCount_0f7a4_23 rfl hl (by decide) rfl (fun ls hk => ?_)
  replace hl := hk
  refine lv_iload_n X.1 X.2.1 dJ6_bitCount_0f7a4_24 rfl (lv_at hl 0 rfl) ?_
  refine lv_iload_n X.1 X.2.1 dJ6_bitCount_0f7a4_25 rfl (lv_at hl 0 rfl) ?_
  refine lv_iconst (v := 4) X.1 X.2.1 dJ6_bitCount_0f7a4_26 (by decide) ?_
  refine lv_iushr X.1 X.2.1 dJ6_bitCount_0f7a4_27 rfl ?_
  refine lv_iadd X.1 X.2.1 dJ6_bitCount_0f7a4_28 ?_
  refine lv_ldcw X.1 X.2.1 X.2.2.2.1 (X.2.2.2.2.use kcn_J6_267 rfl) dJ6_bitCount_0f7a4_29 ?_
  refine lv_iand X.1 X.2.1 dJ6_bitCount_0f7a4_32 ?_
  refine ze_nm hf (fun v3 hg => ?_)
  replace hf := hg
  refine lv_istore_n (i := 0) (lv' := [(0, .int v3)]) X.1 X.2.1 dJ6_bitCount_0f7a4_33 rfl hl (by decide) rfl (fun ls hk => ?_)
  replace hl := hk
  refine lv_iload_n X.1 X.2.1 dJ6_bitCount_0f7a4_34 rfl (lv_at hl 0 rfl) ?_
  refine lv_iload_n X.1 X.2.1 dJ6_bitCount_0f7a4_35 rfl (lv_at hl 0 rfl) ?_
  refine lv_bipush (v := 8) X.1 X.2.1 dJ6_bitCount_0f7a4_36 (by decide) ?_
  refine lv_iushr X.1 X.2.1 dJ6_bitCount_0f7a4_38 rfl ?_
  refine lv_iadd X.1 X.2.1 dJ6_bitCount_0f7a4_39 ?_
  refine ze_nm hf (fun v4 hg => ?_)
  replace hf := hg
  refine lv_istore_n (i := 0) (lv' := [(0, .int v4)]) X.1 X.2.1 dJ6_bitCount_0f7a4_40 rfl hl (by decide) rfl (fun ls hk => ?_)
  replace hl := hk
  refine lv_iload_n X.1 X.2.1 dJ6_bitCount_0f7a4_41 rfl (lv_at hl 0 rfl) ?_
  refine lv_iload_n X.1 X.2.1 dJ6_bitCount_0f7a4_42 rfl (lv_at hl 0 rfl) ?_
  refine lv_bipush (v := 16) X.1 X.2.1 dJ6_bitCount_0f7a4_43 (by decide) ?_
  refine lv_iushr X.1 X.2.1 dJ6_bitCount_0f7a4_45 rfl ?_
  refine lv_iadd X.1 X.2.1 dJ6_bitCount_0f7a4_46 ?_
  refine ze_nm hf (fun v5 hg => ?_)
  replace hf := hg
  refine lv_istore_n (i := 0) (lv' := [(0, .int v5)]) X.1 X.2.1 dJ6_bitCount_0f7a4_47 rfl hl (by decide) rfl (fun ls hk => ?_)
  replace hl := hk
  refine lv_iload_n X.1 X.2.1 dJ6_bitCount_0f7a4_48 rfl (lv_at hl 0 rfl) ?_
  refine lv_bipush (v := 63) X.1 X.2.1 dJ6_bitCount_0f7a4_49 (by decide) ?_
  refine lv_iand X.1 X.2.1 dJ6_bitCount_0f7a4_51 ?_
  obtain rfl := zi1 hf
  exact ze_retI X hr hlk hW (Nat.le_refl _) (Nat.le_refl _) dJ6_bitCount_0f7a4_52
end

/-! LeastPatterns$Term.greatestDepth()I -/
def g_X5_greatestDepth_4 (F : Nat) (K : zK) (I : zI) (R : zR) (a0 : Nat)  (kself : Int32 → Int32 → Option (Int32)) (x1 : Int32) (x2 : Int32) : Option (Int32) :=
  if (I a0 3) ≤ x2 then
    some x1
  else
    zbd (f_X5_depthOf F K I R a0 x2) fun v2 =>
    zbd (some (if x1 < v2 then v2 else x1)) fun v4 =>
    kself v4 (x2 + (1 : Int32))
def f_X5_greatestDepth_4 (F : Nat) (K : zK) (I : zI) (R : zR) (a0 : Nat)  : Nat → Int32 → Int32 → Option (Int32)
  | 0, _, _ => none
  | t + 1, x1, x2 => g_X5_greatestDepth_4 F K I R a0  (f_X5_greatestDepth_4 F K I R a0  t) x1 x2
def f_X5_greatestDepth (F : Nat) (K : zK) (I : zI) (R : zR) (a0 : Nat)  : Option (Int32) :=
  f_X5_greatestDepth_4 F K I R a0 F (0 : Int32) (0 : Int32)
section
variable {p : Program} {l : Launch} {e : Env} {s : State} {m : MethodId} {args : Array Value} {below : List Frame} {meth : Method} {c : Code} {D : zD} {B n n0 n' fd ld : Nat} {K K0 K' : zK} {I I' : zI} {R R' : zR} {H : Heap} {locs : List Loc} {ls : Array Slot} {r : Int32}
set_option maxRecDepth 100000 in
set_option maxHeartbeats 4000000 in
theorem wg_X5_greatestDepth_4 {F : Nat} {a0 : Nat}  (X : zX p s m c cX5_greatestDepth 3 RX5 D) (hr : meth.sig.returnType = some .int) (hlk : meth.locks = false) (hK0 : (K a0).1 = 15)  {kself : Int32 → Int32 → Option (Int32)} (hkself : ∀ (x1 : Int32) (x2 : Int32) (H : Heap) (locs : List Loc) (ls : Array Slot), kself x1 x2 = some r → zS (zOwn B K (B + n)) D B n K I R s.heap H locs → lv_has ls 3 [(0, .ref (B + a0)), (1, .int x1), (2, .int x2)] → W p l e ({ frames := 2, cells := 0, slots := 0, locals := 61 } : Room) s m args below meth c H locs 0 0 (MQ below (zQi D (zOwn B K (B + n)) r B n K I R) args s 0 0 (zOwn B K (B + n))) (F0 m 4 ls [])) {x1 : Int32} {x2 : Int32} (hf : g_X5_greatestDepth_4 F K I R a0  kself x1 x2 = some r) (hW : zS (zOwn B K (B + n)) D B n K I R s.heap H locs) (hl : lv_has ls 3 [(0, .ref (B + a0)), (1, .int x1), (2, .int x2)]) : W p l e ({ frames := 2, cells := 0, slots := 0, locals := 61 } : Room) s m args below meth c H locs 0 0 (MQ below (zQi D (zOwn B K (B + n)) r B n K I R) args s 0 0 (zOwn B K (B + n))) (F0 m 4 ls []) := by
  unfold g_X5_greatestDepth_4 at hf
  refine lv_iload_n X.1 X.2.1 dX5_greatestDepth_4 rfl (lv_at hl 2 rfl) ?_
  refine lv_aload_n X.1 X.2.1 dX5_greatestDepth_5 rfl (lv_at hl 0 rfl) ?_
  refine ze_getI X 5 3 21 (RX5, TX5, 4) rfl hW hK0 rfl (by decide) kfl_X5_21 dX5_greatestDepth_6 ?_
  refine lv_icmp_ge (tgt := 28) X.1 X.2.1 dX5_greatestDepth_9 (by decide) (fun c1 => ?_) (fun c1 => ?_)
  · replace hf := zif_pos c1 hf
    refine lv_iload_n X.1 X.2.1 dX5_greatestDepth_28 rfl (lv_at hl 1 rfl) ?_
    obtain rfl := zi1 hf
    exact ze_retI X hr hlk hW (Nat.le_refl _) (Nat.le_refl _) dX5_greatestDepth_29
  · replace hf := zif_neg c1 hf
    refine lv_iload_n X.1 X.2.1 dX5_greatestDepth_12 rfl (lv_at hl 1 rfl) ?_
    refine lv_aload_n X.1 X.2.1 dX5_greatestDepth_13 rfl (lv_at hl 0 rfl) ?_
    refine lv_iload_n X.1 X.2.1 dX5_greatestDepth_14 rfl (lv_at hl 2 rfl) ?_
    obtain ⟨v2, h3, hg⟩ := zh_bd hf
    replace hf := hg
    refine ze_aftI0 (ze_runV (As := [.int x2]) (rest := [.int x1]) X 5 42 (c_X5_depthOf l D B n hK0 h3) vX5_depthOf kml_X5_42 hW hK0 rfl rfl ⟨by decide, by decide⟩ rfl hl.1 rfl (Nat.le_of_ble_eq_true rfl) ⟨Nat.le_refl _, Nat.le_refl _⟩ dX5_greatestDepth_15) hW (fun H locs hV => ?_)
    replace hW := hV
    refine ze_max X hl.1 kml_X5_51 kmath_max_1 kmath_i kmath_max_2 (by decide) (by decide) (Nat.zero_le _) (Nat.zero_le _) dX5_greatestDepth_18 ?_
    refine ze_nm hf (fun v4 hg => ?_)
    replace hf := hg
    refine lv_istore_n (i := 1) (lv' := [(1, .int v4), (0, .ref (B + a0)), (2, .int x2)]) X.1 X.2.1 dX5_greatestDepth_21 rfl hl (by decide) rfl (fun ls hk => ?_)
    replace hl := hk
    refine ze_iinc (lv' := [(2, .int (x2 + (1 : Int32))), (1, .int v4), (0, .ref (B + a0))]) (d := 1) X.1 X.2.1 dX5_greatestDepth_22 hl (k := 2) rfl (by decide) (by decide) rfl (fun ls hk => ?_)
    replace hl := hk
    refine lv_goto (tgt := 4) X.1 X.2.1 dX5_greatestDepth_25 (by decide) ?_
    exact hkself _ _ _ _ _ hf hW (lv_sub hl [2, 1, 0] rfl)
set_option maxRecDepth 100000 in
set_option maxHeartbeats 4000000 in
theorem w_X5_greatestDepth_4 {F : Nat} {a0 : Nat}  (X : zX p s m c cX5_greatestDepth 3 RX5 D) (hr : meth.sig.returnType = some .int) (hlk : meth.locks = false) (hK0 : (K a0).1 = 15)  {t : Nat} {x1 : Int32} {x2 : Int32} (hf : f_X5_greatestDepth_4 F K I R a0  t x1 x2 = some r) (hW : zS (zOwn B K (B + n)) D B n K I R s.heap H locs) (hl : lv_has ls 3 [(0, .ref (B + a0)), (1, .int x1), (2, .int x2)]) : W p l e ({ frames := 2, cells := 0, slots := 0, locals := 61 } : Room) s m args below meth c H locs 0 0 (MQ below (zQi D (zOwn B K (B + n)) r B n K I R) args s 0 0 (zOwn B K (B + n))) (F0 m 4 ls []) := by
  have key : ∀ t : Nat, ∀ (x1 : Int32) (x2 : Int32) (H : Heap) (locs : List Loc) (ls : Array Slot), f_X5_greatestDepth_4 F K I R a0  t x1 x2 = some r → zS (zOwn B K (B + n)) D B n K I R s.heap H locs → lv_has ls 3 [(0, .ref (B + a0)), (1, .int x1), (2, .int x2)] → W p l e ({ frames := 2, cells := 0, slots := 0, locals := 61 } : Room) s m args below meth c H locs 0 0 (MQ below (zQi D (zOwn B K (B + n)) r B n K I R) args s 0 0 (zOwn B K (B + n))) (F0 m 4 ls []) := by
    intro t
    induction t with
    | zero =>
      intro x1 x2 H locs ls hf hW hl
      cases hf
    | succ t ih =>
      intro x1 x2 H locs ls hf hW hl
      exact wg_X5_greatestDepth_4 X hr hlk hK0  ih hf hW hl
  exact key t _ _ _ _ _ hf hW hl
set_option maxRecDepth 100000 in
set_option maxHeartbeats 4000000 in
theorem c_X5_greatestDepth (l : Launch) (D : zD) (B n : Nat) {F : Nat} {K : zK} {I : zI} {R : zR} {a0 : Nat}  {r : Int32} (hK0 : (K a0).1 = 15) (hf : f_X5_greatestDepth F K I R a0  = some r) : zM l yX5_greatestDepth cX5_greatestDepth 3 (some .int) ({ frames := 2, cells := 0, slots := 0, locals := 61 } : Room) D B n K I R [.ref (B + a0)] (zQi D (zOwn B K (B + n)) r B n K I R) := by
  refine ze_entry (lv0 := [(0, .ref (B + a0))]) (by decide) (by simp [lg_sl, zcat, zcat_i, zcat_r, zcat_l]) (by simp [lv_args, zcat, zcat_i, zcat_r, zcat_l]) (fun p e s m below meth c X hr hlk hin hW ls hl => ?_)
  unfold f_X5_greatestDepth at hf
  refine lv_iconst (v := 0) X.1 X.2.1 dX5_greatestDepth_0 (by decide) ?_
  refine lv_istore_n (i := 1) (lv' := [(1, .int (0 : Int32)), (0, .ref (B + a0))]) X.1 X.2.1 dX5_greatestDepth_1 rfl hl (by decide) rfl (fun ls hk => ?_)
  replace hl := hk
  refine lv_iconst (v := 0) X.1 X.2.1 dX5_greatestDepth_2 (by decide) ?_
  refine lv_istore_n (i := 2) (lv' := [(2, .int (0 : Int32)), (1, .int (0 : Int32)), (0, .ref (B + a0))]) X.1 X.2.1 dX5_greatestDepth_3 rfl hl (by decide) rfl (fun ls hk => ?_)
  replace hl := hk
  exact w_X5_greatestDepth_4 X hr hlk hK0 hf hW (lv_sub hl [2, 1, 0] rfl)
end

/-! LeastPatterns$Term.holes()I -/
def f_X5_holes_30 (F : Nat) (K : zK) (I : zI) (R : zR) (a0 : Nat) (k4 : Int32 → Int32 → Option (Int32)) (x1 : Int32) (x2 : Int32) : Option (Int32) :=
  k4 x1 (x2 + (1 : Int32))
def g_X5_holes_4 (F : Nat) (K : zK) (I : zI) (R : zR) (a0 : Nat)  (kself : Int32 → Int32 → Option (Int32)) (x1 : Int32) (x2 : Int32) : Option (Int32) :=
  if (I a0 3) ≤ x2 then
    some x1
  else
    zbd (f_X5_sortOf F K I R a0 x2) fun v2 =>
    if v2 = (0 : Int32) then
      f_X5_holes_30 F K I R a0 kself x1 x2
    else
      zbd (f_X5_numberOf F K I R a0 x2) fun v5 =>
      zbd (some (x1 ||| ((1 : Int32) <<< (v5 &&& 31)))) fun v7 =>
      f_X5_holes_30 F K I R a0 kself v7 x2
def f_X5_holes_4 (F : Nat) (K : zK) (I : zI) (R : zR) (a0 : Nat)  : Nat → Int32 → Int32 → Option (Int32)
  | 0, _, _ => none
  | t + 1, x1, x2 => g_X5_holes_4 F K I R a0  (f_X5_holes_4 F K I R a0  t) x1 x2
def f_X5_holes (F : Nat) (K : zK) (I : zI) (R : zR) (a0 : Nat)  : Option (Int32) :=
  f_X5_holes_4 F K I R a0 F (0 : Int32) (0 : Int32)
section
variable {p : Program} {l : Launch} {e : Env} {s : State} {m : MethodId} {args : Array Value} {below : List Frame} {meth : Method} {c : Code} {D : zD} {B n n0 n' fd ld : Nat} {K K0 K' : zK} {I I' : zI} {R R' : zR} {H : Heap} {locs : List Loc} {ls : Array Slot} {r : Int32}
set_option maxRecDepth 100000 in
set_option maxHeartbeats 4000000 in
theorem w_X5_holes_30 {F : Nat} {a0 : Nat} {k4 : Int32 → Int32 → Option (Int32)} (X : zX p s m c cX5_holes 3 RX5 D) (hr : meth.sig.returnType = some .int) (hlk : meth.locks = false) (hK0 : (K a0).1 = 15) (hk4 : ∀ (x1 : Int32) (x2 : Int32) (H : Heap) (locs : List Loc) (ls : Array Slot), k4 x1 x2 = some r → zS (zOwn B K (B + n)) D B n K I R s.heap H locs → lv_has ls 3 [(0, .ref (B + a0)), (1, .int x1), (2, .int x2)] → W p l e ({ frames := 2, cells := 0, slots := 0, locals := 61 } : Room) s m args below meth c H locs 0 0 (MQ below (zQi D (zOwn B K (B + n)) r B n K I R) args s 0 0 (zOwn B K (B + n))) (F0 m 4 ls [])) {x1 : Int32} {x2 : Int32} (hf : f_X5_holes_30 F K I R a0 k4 x1 x2 = some r) (hW : zS (zOwn B K (B + n)) D B n K I R s.heap H locs) (hl : lv_has ls 3 [(0, .ref (B + a0)), (1, .int x1), (2, .int x2)]) : W p l e ({ frames := 2, cells := 0, slots := 0, locals := 61 } : Room) s m args below meth c H locs 0 0 (MQ below (zQi D (zOwn B K (B + n)) r B n K I R) args s 0 0 (zOwn B K (B + n))) (F0 m 30 ls []) := by
  unfold f_X5_holes_30 at hf
  refine ze_iinc (lv' := [(2, .int (x2 + (1 : Int32))), (0, .ref (B + a0)), (1, .int x1)]) (d := 1) X.1 X.2.1 dX5_holes_30 hl (k := 2) rfl (by decide) (by decide) rfl (fun ls hk => ?_)
  replace hl := hk
  refine lv_goto (tgt := 4) X.1 X.2.1 dX5_holes_33 (by decide) ?_
  exact hk4 _ _ _ _ _ hf hW (lv_sub hl [1, 2, 0] rfl)
set_option maxRecDepth 100000 in
set_option maxHeartbeats 4000000 in
theorem wg_X5_holes_4 {F : Nat} {a0 : Nat}  (X : zX p s m c cX5_holes 3 RX5 D) (hr : meth.sig.returnType = some .int) (hlk : meth.locks = false) (hK0 : (K a0).1 = 15)  {kself : Int32 → Int32 → Option (Int32)} (hkself : ∀ (x1 : Int32) (x2 : Int32) (H : Heap) (locs : List Loc) (ls : Array Slot), kself x1 x2 = some r → zS (zOwn B K (B + n)) D B n K I R s.heap H locs → lv_has ls 3 [(0, .ref (B + a0)), (1, .int x1), (2, .int x2)] → W p l e ({ frames := 2, cells := 0, slots := 0, locals := 61 } : Room) s m args below meth c H locs 0 0 (MQ below (zQi D (zOwn B K (B + n)) r B n K I R) args s 0 0 (zOwn B K (B + n))) (F0 m 4 ls [])) {x1 : Int32} {x2 : Int32} (hf : g_X5_holes_4 F K I R a0  kself x1 x2 = some r) (hW : zS (zOwn B K (B + n)) D B n K I R s.heap H locs) (hl : lv_has ls 3 [(0, .ref (B + a0)), (1, .int x1), (2, .int x2)]) : W p l e ({ frames := 2, cells := 0, slots := 0, locals := 61 } : Room) s m args below meth c H locs 0 0 (MQ below (zQi D (zOwn B K (B + n)) r B n K I R) args s 0 0 (zOwn B K (B + n))) (F0 m 4 ls []) := by
  unfold g_X5_holes_4 at hf
  refine lv_iload_n X.1 X.2.1 dX5_holes_4 rfl (lv_at hl 2 rfl) ?_
  refine lv_aload_n X.1 X.2.1 dX5_holes_5 rfl (lv_at hl 0 rfl) ?_
  refine ze_getI X 5 3 21 (RX5, TX5, 4) rfl hW hK0 rfl (by decide) kfl_X5_21 dX5_holes_6 ?_
  refine lv_icmp_ge (tgt := 36) X.1 X.2.1 dX5_holes_9 (by decide) (fun c1 => ?_) (fun c1 => ?_)
  · replace hf := zif_pos c1 hf
    refine lv_iload_n X.1 X.2.1 dX5_holes_36 rfl (lv_at hl 1 rfl) ?_
    obtain rfl := zi1 hf
    exact ze_retI X hr hlk hW (Nat.le_refl _) (Nat.le_refl _) dX5_holes_37
  · replace hf := zif_neg c1 hf
    refine lv_aload_n X.1 X.2.1 dX5_holes_12 rfl (lv_at hl 0 rfl) ?_
    refine lv_iload_n X.1 X.2.1 dX5_holes_13 rfl (lv_at hl 2 rfl) ?_
    obtain ⟨v2, h3, hg⟩ := zh_bd hf
    replace hf := hg
    refine ze_aftI0 (ze_runV (As := [.int x2]) (rest := []) X 5 45 (c_X5_sortOf l D B n hK0 h3) vX5_sortOf kml_X5_45 hW hK0 rfl rfl ⟨by decide, by decide⟩ rfl hl.1 rfl (Nat.le_of_ble_eq_true rfl) ⟨Nat.le_refl _, Nat.le_refl _⟩ dX5_holes_14) hW (fun H locs hV => ?_)
    replace hW := hV
    refine lv_if_eq (tgt := 30) X.1 X.2.1 dX5_holes_17 (by decide) (fun c4 => ?_) (fun c4 => ?_)
    · replace hf := zif_pos c4 hf
      exact w_X5_holes_30 X hr hlk hK0 hkself hf hW hl
    · replace hf := zif_neg c4 hf
      refine lv_iload_n X.1 X.2.1 dX5_holes_20 rfl (lv_at hl 1 rfl) ?_
      refine lv_iconst (v := 1) X.1 X.2.1 dX5_holes_21 (by decide) ?_
      refine lv_aload_n X.1 X.2.1 dX5_holes_22 rfl (lv_at hl 0 rfl) ?_
      refine lv_iload_n X.1 X.2.1 dX5_holes_23 rfl (lv_at hl 2 rfl) ?_
      obtain ⟨v5, h6, hg⟩ := zh_bd hf
      replace hf := hg
      refine ze_aftI0 (ze_runV (As := [.int x2]) (rest := [.int (1 : Int32), .int x1]) X 5 48 (c_X5_numberOf l D B n hK0 h6) vX5_numberOf kml_X5_48 hW hK0 rfl rfl ⟨by decide, by decide⟩ rfl hl.1 rfl (Nat.le_of_ble_eq_true rfl) ⟨Nat.le_refl _, Nat.le_refl _⟩ dX5_holes_24) hW (fun H locs hV => ?_)
      replace hW := hV
      refine lv_ishl X.1 X.2.1 dX5_holes_27 ?_
      refine lv_ior X.1 X.2.1 dX5_holes_28 ?_
      refine ze_nm hf (fun v7 hg => ?_)
      replace hf := hg
      refine lv_istore_n (i := 1) (lv' := [(1, .int v7), (0, .ref (B + a0)), (2, .int x2)]) X.1 X.2.1 dX5_holes_29 rfl hl (by decide) rfl (fun ls hk => ?_)
      replace hl := hk
      exact w_X5_holes_30 X hr hlk hK0 hkself hf hW (lv_sub hl [1, 0, 2] rfl)
set_option maxRecDepth 100000 in
set_option maxHeartbeats 4000000 in
theorem w_X5_holes_4 {F : Nat} {a0 : Nat}  (X : zX p s m c cX5_holes 3 RX5 D) (hr : meth.sig.returnType = some .int) (hlk : meth.locks = false) (hK0 : (K a0).1 = 15)  {t : Nat} {x1 : Int32} {x2 : Int32} (hf : f_X5_holes_4 F K I R a0  t x1 x2 = some r) (hW : zS (zOwn B K (B + n)) D B n K I R s.heap H locs) (hl : lv_has ls 3 [(0, .ref (B + a0)), (1, .int x1), (2, .int x2)]) : W p l e ({ frames := 2, cells := 0, slots := 0, locals := 61 } : Room) s m args below meth c H locs 0 0 (MQ below (zQi D (zOwn B K (B + n)) r B n K I R) args s 0 0 (zOwn B K (B + n))) (F0 m 4 ls []) := by
  have key : ∀ t : Nat, ∀ (x1 : Int32) (x2 : Int32) (H : Heap) (locs : List Loc) (ls : Array Slot), f_X5_holes_4 F K I R a0  t x1 x2 = some r → zS (zOwn B K (B + n)) D B n K I R s.heap H locs → lv_has ls 3 [(0, .ref (B + a0)), (1, .int x1), (2, .int x2)] → W p l e ({ frames := 2, cells := 0, slots := 0, locals := 61 } : Room) s m args below meth c H locs 0 0 (MQ below (zQi D (zOwn B K (B + n)) r B n K I R) args s 0 0 (zOwn B K (B + n))) (F0 m 4 ls []) := by
    intro t
    induction t with
    | zero =>
      intro x1 x2 H locs ls hf hW hl
      cases hf
    | succ t ih =>
      intro x1 x2 H locs ls hf hW hl
      exact wg_X5_holes_4 X hr hlk hK0  ih hf hW hl
  exact key t _ _ _ _ _ hf hW hl
set_option maxRecDepth 100000 in
set_option maxHeartbeats 4000000 in
theorem c_X5_holes (l : Launch) (D : zD) (B n : Nat) {F : Nat} {K : zK} {I : zI} {R : zR} {a0 : Nat}  {r : Int32} (hK0 : (K a0).1 = 15) (hf : f_X5_holes F K I R a0  = some r) : zM l yX5_holes cX5_holes 3 (some .int) ({ frames := 2, cells := 0, slots := 0, locals := 61 } : Room) D B n K I R [.ref (B + a0)] (zQi D (zOwn B K (B + n)) r B n K I R) := by
  refine ze_entry (lv0 := [(0, .ref (B + a0))]) (by decide) (by simp [lg_sl, zcat, zcat_i, zcat_r, zcat_l]) (by simp [lv_args, zcat, zcat_i, zcat_r, zcat_l]) (fun p e s m below meth c X hr hlk hin hW ls hl => ?_)
  unfold f_X5_holes at hf
  refine lv_iconst (v := 0) X.1 X.2.1 dX5_holes_0 (by decide) ?_
  refine lv_istore_n (i := 1) (lv' := [(1, .int (0 : Int32)), (0, .ref (B + a0))]) X.1 X.2.1 dX5_holes_1 rfl hl (by decide) rfl (fun ls hk => ?_)
  replace hl := hk
  refine lv_iconst (v := 0) X.1 X.2.1 dX5_holes_2 (by decide) ?_
  refine lv_istore_n (i := 2) (lv' := [(2, .int (0 : Int32)), (1, .int (0 : Int32)), (0, .ref (B + a0))]) X.1 X.2.1 dX5_holes_3 rfl hl (by decide) rfl (fun ls hk => ?_)
  replace hl := hk
  exact w_X5_holes_4 X hr hlk hK0 hf hW (lv_sub hl [2, 1, 0] rfl)
end

/-! LeastPatterns$Term.symbols()I -/
def f_X5_symbols_26 (F : Nat) (K : zK) (I : zI) (R : zR) (a0 : Nat) (k4 : Int32 → Int32 → Option (Int32)) (x2 : Int32) (s0 : Int32) (s1 : Int32) : Option (Int32) :=
  zbd (some (s0 + s1)) fun v1 =>
  k4 v1 (x2 + (1 : Int32))
def g_X5_symbols_4 (F : Nat) (K : zK) (I : zI) (R : zR) (a0 : Nat)  (kself : Int32 → Int32 → Option (Int32)) (x1 : Int32) (x2 : Int32) : Option (Int32) :=
  if (I a0 3) ≤ x2 then
    some x1
  else
    zbd (f_X5_sortOf F K I R a0 x2) fun v3 =>
    if v3 = (0 : Int32) then
      f_X5_symbols_26 F K I R a0 kself x2 x1 (1 : Int32)
    else
      f_X5_symbols_26 F K I R a0 kself x2 x1 (0 : Int32)
def f_X5_symbols_4 (F : Nat) (K : zK) (I : zI) (R : zR) (a0 : Nat)  : Nat → Int32 → Int32 → Option (Int32)
  | 0, _, _ => none
  | t + 1, x1, x2 => g_X5_symbols_4 F K I R a0  (f_X5_symbols_4 F K I R a0  t) x1 x2
def f_X5_symbols (F : Nat) (K : zK) (I : zI) (R : zR) (a0 : Nat)  : Option (Int32) :=
  f_X5_symbols_4 F K I R a0 F (0 : Int32) (0 : Int32)
section
variable {p : Program} {l : Launch} {e : Env} {s : State} {m : MethodId} {args : Array Value} {below : List Frame} {meth : Method} {c : Code} {D : zD} {B n n0 n' fd ld : Nat} {K K0 K' : zK} {I I' : zI} {R R' : zR} {H : Heap} {locs : List Loc} {ls : Array Slot} {r : Int32}
set_option maxRecDepth 100000 in
set_option maxHeartbeats 4000000 in
theorem w_X5_symbols_26 {F : Nat} {a0 : Nat} {k4 : Int32 → Int32 → Option (Int32)} (X : zX p s m c cX5_symbols 3 RX5 D) (hr : meth.sig.returnType = some .int) (hlk : meth.locks = false) (hK0 : (K a0).1 = 15) (hk4 : ∀ (x1 : Int32) (x2 : Int32) (H : Heap) (locs : List Loc) (ls : Array Slot), k4 x1 x2 = some r → zS (zOwn B K (B + n)) D B n K I R s.heap H locs → lv_has ls 3 [(0, .ref (B + a0)), (1, .int x1), (2, .int x2)] → W p l e ({ frames := 2, cells := 0, slots := 0, locals := 61 } : Room) s m args below meth c H locs 0 0 (MQ below (zQi D (zOwn B K (B + n)) r B n K I R) args s 0 0 (zOwn B K (B + n))) (F0 m 4 ls [])) {x2 : Int32} {s0 : Int32} {s1 : Int32} (hf : f_X5_symbols_26 F K I R a0 k4 x2 s0 s1 = some r) (hW : zS (zOwn B K (B + n)) D B n K I R s.heap H locs) (hl : lv_has ls 3 [(0, .ref (B + a0)), (2, .int x2)]) : W p l e ({ frames := 2, cells := 0, slots := 0, locals := 61 } : Room) s m args below meth c H locs 0 0 (MQ below (zQi D (zOwn B K (B + n)) r B n K I R) args s 0 0 (zOwn B K (B + n))) (F0 m 26 ls [.int s1, .int s0]) := by
  unfold f_X5_symbols_26 at hf
  refine lv_iadd X.1 X.2.1 dX5_symbols_26 ?_
  refine ze_nm hf (fun v1 hg => ?_)
  replace hf := hg
  refine lv_istore_n (i := 1) (lv' := [(1, .int v1), (0, .ref (B + a0)), (2, .int x2)]) X.1 X.2.1 dX5_symbols_27 rfl hl (by decide) rfl (fun ls hk => ?_)
  replace hl := hk
  refine ze_iinc (lv' := [(2, .int (x2 + (1 : Int32))), (1, .int v1), (0, .ref (B + a0))]) (d := 1) X.1 X.2.1 dX5_symbols_28 hl (k := 2) rfl (by decide) (by decide) rfl (fun ls hk => ?_)
  replace hl := hk
  refine lv_goto (tgt := 4) X.1 X.2.1 dX5_symbols_31 (by decide) ?_
  exact hk4 _ _ _ _ _ hf hW (lv_sub hl [2, 1, 0] rfl)
set_option maxRecDepth 100000 in
set_option maxHeartbeats 4000000 in
theorem wg_X5_symbols_4 {F : Nat} {a0 : Nat}  (X : zX p s m c cX5_symbols 3 RX5 D) (hr : meth.sig.returnType = some .int) (hlk : meth.locks = false) (hK0 : (K a0).1 = 15)  {kself : Int32 → Int32 → Option (Int32)} (hkself : ∀ (x1 : Int32) (x2 : Int32) (H : Heap) (locs : List Loc) (ls : Array Slot), kself x1 x2 = some r → zS (zOwn B K (B + n)) D B n K I R s.heap H locs → lv_has ls 3 [(0, .ref (B + a0)), (1, .int x1), (2, .int x2)] → W p l e ({ frames := 2, cells := 0, slots := 0, locals := 61 } : Room) s m args below meth c H locs 0 0 (MQ below (zQi D (zOwn B K (B + n)) r B n K I R) args s 0 0 (zOwn B K (B + n))) (F0 m 4 ls [])) {x1 : Int32} {x2 : Int32} (hf : g_X5_symbols_4 F K I R a0  kself x1 x2 = some r) (hW : zS (zOwn B K (B + n)) D B n K I R s.heap H locs) (hl : lv_has ls 3 [(0, .ref (B + a0)), (1, .int x1), (2, .int x2)]) : W p l e ({ frames := 2, cells := 0, slots := 0, locals := 61 } : Room) s m args below meth c H locs 0 0 (MQ below (zQi D (zOwn B K (B + n)) r B n K I R) args s 0 0 (zOwn B K (B + n))) (F0 m 4 ls []) := by
  unfold g_X5_symbols_4 at hf
  refine lv_iload_n X.1 X.2.1 dX5_symbols_4 rfl (lv_at hl 2 rfl) ?_
  refine lv_aload_n X.1 X.2.1 dX5_symbols_5 rfl (lv_at hl 0 rfl) ?_
  refine ze_getI X 5 3 21 (RX5, TX5, 4) rfl hW hK0 rfl (by decide) kfl_X5_21 dX5_symbols_6 ?_
  refine lv_icmp_ge (tgt := 34) X.1 X.2.1 dX5_symbols_9 (by decide) (fun c2 => ?_) (fun c2 => ?_)
  · replace hf := zif_pos c2 hf
    refine lv_iload_n X.1 X.2.1 dX5_symbols_34 rfl (lv_at hl 1 rfl) ?_
    obtain rfl := zi1 hf
    exact ze_retI X hr hlk hW (Nat.le_refl _) (Nat.le_refl _) dX5_symbols_35
  · replace hf := zif_neg c2 hf
    refine lv_iload_n X.1 X.2.1 dX5_symbols_12 rfl (lv_at hl 1 rfl) ?_
    refine lv_aload_n X.1 X.2.1 dX5_symbols_13 rfl (lv_at hl 0 rfl) ?_
    refine lv_iload_n X.1 X.2.1 dX5_symbols_14 rfl (lv_at hl 2 rfl) ?_
    obtain ⟨v3, h4, hg⟩ := zh_bd hf
    replace hf := hg
    refine ze_aftI0 (ze_runV (As := [.int x2]) (rest := [.int x1]) X 5 45 (c_X5_sortOf l D B n hK0 h4) vX5_sortOf kml_X5_45 hW hK0 rfl rfl ⟨by decide, by decide⟩ rfl hl.1 rfl (Nat.le_of_ble_eq_true rfl) ⟨Nat.le_refl _, Nat.le_refl _⟩ dX5_symbols_15) hW (fun H locs hV => ?_)
    replace hW := hV
    refine lv_if_ne (tgt := 25) X.1 X.2.1 dX5_symbols_18 (by decide) (fun c5 => ?_) (fun c5 => ?_)
    · replace hf := zif_neg c5 hf
      refine lv_iconst (v := 0) X.1 X.2.1 dX5_symbols_25 (by decide) ?_
      exact w_X5_symbols_26 X hr hlk hK0 hkself hf hW (lv_sub hl [0, 2] rfl)
    · replace hf := zif_pos c5 hf
      refine lv_iconst (v := 1) X.1 X.2.1 dX5_symbols_21 (by decide) ?_
      refine lv_goto (tgt := 26) X.1 X.2.1 dX5_symbols_22 (by decide) ?_
      exact w_X5_symbols_26 X hr hlk hK0 hkself hf hW (lv_sub hl [0, 2] rfl)
set_option maxRecDepth 100000 in
set_option maxHeartbeats 4000000 in
theorem w_X5_symbols_4 {F : Nat} {a0 : Nat}  (X : zX p s m c cX5_symbols 3 RX5 D) (hr : meth.sig.returnType = some .int) (hlk : meth.locks = false) (hK0 : (K a0).1 = 15)  {t : Nat} {x1 : Int32} {x2 : Int32} (hf : f_X5_symbols_4 F K I R a0  t x1 x2 = some r) (hW : zS (zOwn B K (B + n)) D B n K I R s.heap H locs) (hl : lv_has ls 3 [(0, .ref (B + a0)), (1, .int x1), (2, .int x2)]) : W p l e ({ frames := 2, cells := 0, slots := 0, locals := 61 } : Room) s m args below meth c H locs 0 0 (MQ below (zQi D (zOwn B K (B + n)) r B n K I R) args s 0 0 (zOwn B K (B + n))) (F0 m 4 ls []) := by
  have key : ∀ t : Nat, ∀ (x1 : Int32) (x2 : Int32) (H : Heap) (locs : List Loc) (ls : Array Slot), f_X5_symbols_4 F K I R a0  t x1 x2 = some r → zS (zOwn B K (B + n)) D B n K I R s.heap H locs → lv_has ls 3 [(0, .ref (B + a0)), (1, .int x1), (2, .int x2)] → W p l e ({ frames := 2, cells := 0, slots := 0, locals := 61 } : Room) s m args below meth c H locs 0 0 (MQ below (zQi D (zOwn B K (B + n)) r B n K I R) args s 0 0 (zOwn B K (B + n))) (F0 m 4 ls []) := by
    intro t
    induction t with
    | zero =>
      intro x1 x2 H locs ls hf hW hl
      cases hf
    | succ t ih =>
      intro x1 x2 H locs ls hf hW hl
      exact wg_X5_symbols_4 X hr hlk hK0  ih hf hW hl
  exact key t _ _ _ _ _ hf hW hl
set_option maxRecDepth 100000 in
set_option maxHeartbeats 4000000 in
theorem c_X5_symbols (l : Launch) (D : zD) (B n : Nat) {F : Nat} {K : zK} {I : zI} {R : zR} {a0 : Nat}  {r : Int32} (hK0 : (K a0).1 = 15) (hf : f_X5_symbols F K I R a0  = some r) : zM l yX5_symbols cX5_symbols 3 (some .int) ({ frames := 2, cells := 0, slots := 0, locals := 61 } : Room) D B n K I R [.ref (B + a0)] (zQi D (zOwn B K (B + n)) r B n K I R) := by
  refine ze_entry (lv0 := [(0, .ref (B + a0))]) (by decide) (by simp [lg_sl, zcat, zcat_i, zcat_r, zcat_l]) (by simp [lv_args, zcat, zcat_i, zcat_r, zcat_l]) (fun p e s m below meth c X hr hlk hin hW ls hl => ?_)
  unfold f_X5_symbols at hf
  refine lv_iconst (v := 0) X.1 X.2.1 dX5_symbols_0 (by decide) ?_
  refine lv_istore_n (i := 1) (lv' := [(1, .int (0 : Int32)), (0, .ref (B + a0))]) X.1 X.2.1 dX5_symbols_1 rfl hl (by decide) rfl (fun ls hk => ?_)
  replace hl := hk
  refine lv_iconst (v := 0) X.1 X.2.1 dX5_symbols_2 (by decide) ?_
  refine lv_istore_n (i := 2) (lv' := [(2, .int (0 : Int32)), (1, .int (0 : Int32)), (0, .ref (B + a0))]) X.1 X.2.1 dX5_symbols_3 rfl hl (by decide) rfl (fun ls hk => ?_)
  replace hl := hk
  exact w_X5_symbols_4 X hr hlk hK0 hf hW (lv_sub hl [2, 1, 0] rfl)
end

/-! LeastPatterns.sumOfMembers(I)I -/
def g_X6_sumOfMembers_4 (F : Nat) (K : zK) (I : zI) (R : zR)  (kself : Int32 → Int32 → Int32 → Option (Int32)) (x0 : Int32) (x1 : Int32) (x2 : Int32) : Option (Int32) :=
  if (32 : Int32) ≤ x2 then
    some x1
  else
    zbd (some (x1 + (((x0 >>> (x2 &&& 31)) &&& (1 : Int32)) * x2))) fun v2 =>
    kself x0 v2 (x2 + (1 : Int32))
def f_X6_sumOfMembers_4 (F : Nat) (K : zK) (I : zI) (R : zR)  : Nat → Int32 → Int32 → Int32 → Option (Int32)
  | 0, _, _, _ => none
  | t + 1, x0, x1, x2 => g_X6_sumOfMembers_4 F K I R  (f_X6_sumOfMembers_4 F K I R  t) x0 x1 x2
def f_X6_sumOfMembers (F : Nat) (K : zK) (I : zI) (R : zR) (x0 : Int32) : Option (Int32) :=
  f_X6_sumOfMembers_4 F K I R F x0 (0 : Int32) (0 : Int32)
section
variable {p : Program} {l : Launch} {e : Env} {s : State} {m : MethodId} {args : Array Value} {below : List Frame} {meth : Method} {c : Code} {D : zD} {B n n0 n' fd ld : Nat} {K K0 K' : zK} {I I' : zI} {R R' : zR} {H : Heap} {locs : List Loc} {ls : Array Slot} {r : Int32}
set_option maxRecDepth 100000 in
set_option maxHeartbeats 4000000 in
theorem wg_X6_sumOfMembers_4 {F : Nat}  (X : zX p s m c cX6_sumOfMembers 3 RX6 D) (hr : meth.sig.returnType = some .int) (hlk : meth.locks = false)  {kself : Int32 → Int32 → Int32 → Option (Int32)} (hkself : ∀ (x0 : Int32) (x1 : Int32) (x2 : Int32) (H : Heap) (locs : List Loc) (ls : Array Slot), kself x0 x1 x2 = some r → zS (zOwn B K (B + n)) D B n K I R s.heap H locs → lv_has ls 3 [(0, .int x0), (1, .int x1), (2, .int x2)] → W p l e ({ frames := 1, cells := 0, slots := 0, locals := 40 } : Room) s m args below meth c H locs 0 0 (MQ below (zQi D (zOwn B K (B + n)) r B n K I R) args s 0 0 (zOwn B K (B + n))) (F0 m 4 ls [])) {x0 : Int32} {x1 : Int32} {x2 : Int32} (hf : g_X6_sumOfMembers_4 F K I R  kself x0 x1 x2 = some r) (hW : zS (zOwn B K (B + n)) D B n K I R s.heap H locs) (hl : lv_has ls 3 [(0, .int x0), (1, .int x1), (2, .int x2)]) : W p l e ({ frames := 1, cells := 0, slots := 0, locals := 40 } : Room) s m args below meth c H locs 0 0 (MQ below (zQi D (zOwn B K (B + n)) r B n K I R) args s 0 0 (zOwn B K (B + n))) (F0 m 4 ls []) := by
  unfold g_X6_sumOfMembers_4 at hf
  refine lv_iload_n X.1 X.2.1 dX6_sumOfMembers_4 rfl (lv_at hl 2 rfl) ?_
  refine lv_bipush (v := 32) X.1 X.2.1 dX6_sumOfMembers_5 (by decide) ?_
  refine lv_icmp_ge (tgt := 26) X.1 X.2.1 dX6_sumOfMembers_7 (by decide) (fun c1 => ?_) (fun c1 => ?_)
  · replace hf := zif_pos c1 hf
    refine lv_iload_n X.1 X.2.1 dX6_sumOfMembers_26 rfl (lv_at hl 1 rfl) ?_
    obtain rfl := zi1 hf
    exact ze_retI X hr hlk hW (Nat.le_refl _) (Nat.le_refl _) dX6_sumOfMembers_27
  · replace hf := zif_neg c1 hf
    refine lv_iload_n X.1 X.2.1 dX6_sumOfMembers_10 rfl (lv_at hl 1 rfl) ?_
    refine lv_iload_n X.1 X.2.1 dX6_sumOfMembers_11 rfl (lv_at hl 0 rfl) ?_
    refine lv_iload_n X.1 X.2.1 dX6_sumOfMembers_12 rfl (lv_at hl 2 rfl) ?_
    refine lv_ishr X.1 X.2.1 dX6_sumOfMembers_13 ?_
    refine lv_iconst (v := 1) X.1 X.2.1 dX6_sumOfMembers_14 (by decide) ?_
    refine lv_iand X.1 X.2.1 dX6_sumOfMembers_15 ?_
    refine lv_iload_n X.1 X.2.1 dX6_sumOfMembers_16 rfl (lv_at hl 2 rfl) ?_
    refine lv_imul X.1 X.2.1 dX6_sumOfMembers_17 ?_
    refine lv_iadd X.1 X.2.1 dX6_sumOfMembers_18 ?_
    refine ze_nm hf (fun v2 hg => ?_)
    replace hf := hg
    refine lv_istore_n (i := 1) (lv' := [(1, .int v2), (0, .int x0), (2, .int x2)]) X.1 X.2.1 dX6_sumOfMembers_19 rfl hl (by decide) rfl (fun ls hk => ?_)
    replace hl := hk
    refine ze_iinc (lv' := [(2, .int (x2 + (1 : Int32))), (1, .int v2), (0, .int x0)]) (d := 1) X.1 X.2.1 dX6_sumOfMembers_20 hl (k := 2) rfl (by decide) (by decide) rfl (fun ls hk => ?_)
    replace hl := hk
    refine lv_goto (tgt := 4) X.1 X.2.1 dX6_sumOfMembers_23 (by decide) ?_
    exact hkself _ _ _ _ _ _ hf hW (lv_sub hl [2, 1, 0] rfl)
set_option maxRecDepth 100000 in
set_option maxHeartbeats 4000000 in
theorem w_X6_sumOfMembers_4 {F : Nat}  (X : zX p s m c cX6_sumOfMembers 3 RX6 D) (hr : meth.sig.returnType = some .int) (hlk : meth.locks = false)  {t : Nat} {x0 : Int32} {x1 : Int32} {x2 : Int32} (hf : f_X6_sumOfMembers_4 F K I R  t x0 x1 x2 = some r) (hW : zS (zOwn B K (B + n)) D B n K I R s.heap H locs) (hl : lv_has ls 3 [(0, .int x0), (1, .int x1), (2, .int x2)]) : W p l e ({ frames := 1, cells := 0, slots := 0, locals := 40 } : Room) s m args below meth c H locs 0 0 (MQ below (zQi D (zOwn B K (B + n)) r B n K I R) args s 0 0 (zOwn B K (B + n))) (F0 m 4 ls []) := by
  have key : ∀ t : Nat, ∀ (x0 : Int32) (x1 : Int32) (x2 : Int32) (H : Heap) (locs : List Loc) (ls : Array Slot), f_X6_sumOfMembers_4 F K I R  t x0 x1 x2 = some r → zS (zOwn B K (B + n)) D B n K I R s.heap H locs → lv_has ls 3 [(0, .int x0), (1, .int x1), (2, .int x2)] → W p l e ({ frames := 1, cells := 0, slots := 0, locals := 40 } : Room) s m args below meth c H locs 0 0 (MQ below (zQi D (zOwn B K (B + n)) r B n K I R) args s 0 0 (zOwn B K (B + n))) (F0 m 4 ls []) := by
    intro t
    induction t with
    | zero =>
      intro x0 x1 x2 H locs ls hf hW hl
      cases hf
    | succ t ih =>
      intro x0 x1 x2 H locs ls hf hW hl
      exact wg_X6_sumOfMembers_4 X hr hlk  ih hf hW hl
  exact key t _ _ _ _ _ _ hf hW hl
set_option maxRecDepth 100000 in
set_option maxHeartbeats 4000000 in
theorem c_X6_sumOfMembers (l : Launch) (D : zD) (B n : Nat) {F : Nat} {K : zK} {I : zI} {R : zR} {x0 : Int32} {r : Int32} (hf : f_X6_sumOfMembers F K I R x0 = some r) : zM l yX6_sumOfMembers cX6_sumOfMembers 3 (some .int) ({ frames := 1, cells := 0, slots := 0, locals := 40 } : Room) D B n K I R [.int x0] (zQi D (zOwn B K (B + n)) r B n K I R) := by
  refine ze_entry (lv0 := [(0, .int x0)]) (by decide) (by simp [lg_sl, zcat, zcat_i, zcat_r, zcat_l]) (by simp [lv_args, zcat, zcat_i, zcat_r, zcat_l]) (fun p e s m below meth c X hr hlk hin hW ls hl => ?_)
  unfold f_X6_sumOfMembers at hf
  refine lv_iconst (v := 0) X.1 X.2.1 dX6_sumOfMembers_0 (by decide) ?_
  refine lv_istore_n (i := 1) (lv' := [(1, .int (0 : Int32)), (0, .int x0)]) X.1 X.2.1 dX6_sumOfMembers_1 rfl hl (by decide) rfl (fun ls hk => ?_)
  replace hl := hk
  refine lv_iconst (v := 0) X.1 X.2.1 dX6_sumOfMembers_2 (by decide) ?_
  refine lv_istore_n (i := 2) (lv' := [(2, .int (0 : Int32)), (1, .int (0 : Int32)), (0, .int x0)]) X.1 X.2.1 dX6_sumOfMembers_3 rfl hl (by decide) rfl (fun ls hk => ?_)
  replace hl := hk
  exact w_X6_sumOfMembers_4 X hr hlk hf hW (lv_sub hl [2, 1, 0] rfl)
end

/-! LeastPatterns.size(II)I -/
def f_X6_size (F : Nat) (K : zK) (I : zI) (R : zR) (a0 : Nat) (x1 : Int32) (x2 : Int32) : Option (Int32) :=
  zbd (f_X6_noRegister F K I R x1) fun v1 =>
  if v1 = (0 : Int32) then
    zbd (f_X6_outside F K I R x2 (4 : Int32)) fun v4 =>
    if v4 = (0 : Int32) then
      zbd (some (R a0 3)) fun o7 =>
      zbd (zdr K o7 14) fun a8 =>
      zbd (f_X4_term F K I R a8 x1) fun o11 =>
      zcs o11 (
        some (-2 : Int32)
      ) fun a13 =>
        if x2 = 0 then
          if (K a13).1 = 15 then
          some (I a13 3)
          else none
        else
        if x2 = 1 then
          if (K a13).1 = 15 then
          zbd (f_X5_symbols F K I R a13) fun v18 =>
          some v18
          else none
        else
        if x2 = 2 then
          if (K a13).1 = 15 then
          zbd (f_X5_holes F K I R a13) fun v22 =>
          zbd (f_J6_bitCount_0f7a4 F K I R v22) fun v24 =>
          some v24
          else none
        else
        if x2 = 3 then
          if (K a13).1 = 15 then
          zbd (f_X5_greatestDepth F K I R a13) fun v28 =>
          some v28
          else none
        else
          if (K a13).1 = 15 then
          zbd (f_X5_holes F K I R a13) fun v32 =>
          zbd (f_X6_sumOfMembers F K I R v32) fun v34 =>
          some v34
          else none
    else
      some (-1 : Int32)
  else
    some (-1 : Int32)
section
variable {p : Program} {l : Launch} {e : Env} {s : State} {m : MethodId} {args : Array Value} {below : List Frame} {meth : Method} {c : Code} {D : zD} {B n n0 n' fd ld : Nat} {K K0 K' : zK} {I I' : zI} {R R' : zR} {H : Heap} {locs : List Loc} {ls : Array Slot} {r : Int32}
set_option maxRecDepth 100000 in
set_option maxHeartbeats 4000000 in
theorem c_X6_size (l : Launch) (D : zD) (B n : Nat) {F : Nat} {K : zK} {I : zI} {R : zR} {a0 : Nat} {x1 : Int32} {x2 : Int32} {r : Int32} (hK0 : (K a0).1 = 16) (hf : f_X6_size F K I R a0 x1 x2 = some r) : zM l yX6_size cX6_size 4 (some .int) ({ frames := 3, cells := 0, slots := 0, locals := 83 } : Room) D B n K I R [.ref (B + a0), .int x1, .int x2] (zQi D (zOwn B K (B + n)) r B n K I R) := by
  refine ze_entry (lv0 := [(0, .ref (B + a0)), (1, .int x1), (2, .int x2)]) (by decide) (by simp [lg_sl, zcat, zcat_i, zcat_r, zcat_l]) (by simp [lv_args, zcat, zcat_i, zcat_r, zcat_l]) (fun p e s m below meth c X hr hlk hin hW ls hl => ?_)
  unfold f_X6_size at hf
  refine lv_iload_n X.1 X.2.1 dX6_size_0 rfl (lv_at hl 1 rfl) ?_
  obtain ⟨v1, h2, hg⟩ := zh_bd hf
  replace hf := hg
  refine ze_aftI0 (ze_runS (As := [.int x1]) (rest := []) X 69 (c_X6_noRegister l D B n h2) vX6_noRegister kml_X6_69 hW ⟨by decide, by decide⟩ rfl hl.1 rfl (Nat.le_of_ble_eq_true rfl) ⟨Nat.le_refl _, Nat.le_refl _⟩ dX6_size_1) hW (fun H locs hV => ?_)
  replace hW := hV
  refine lv_if_ne (tgt := 15) X.1 X.2.1 dX6_size_4 (by decide) (fun c3 => ?_) (fun c3 => ?_)
  · replace hf := zif_neg c3 hf
    refine lv_iconst (v := -1) X.1 X.2.1 dX6_size_15 (by decide) ?_
    obtain rfl := zi1 hf
    exact ze_retI X hr hlk hW (Nat.le_refl _) (Nat.le_refl _) dX6_size_16
  · replace hf := zif_pos c3 hf
    refine lv_iload_n X.1 X.2.1 dX6_size_7 rfl (lv_at hl 2 rfl) ?_
    refine lv_iconst (v := 4) X.1 X.2.1 dX6_size_8 (by decide) ?_
    obtain ⟨v4, h5, hg⟩ := zh_bd hf
    replace hf := hg
    refine ze_aftI0 (ze_runS (As := [.int x2, .int (4 : Int32)]) (rest := []) X 65 (c_X6_outside l D B n h5) vX6_outside kml_X6_65 hW ⟨by decide, by decide⟩ rfl hl.1 rfl (Nat.le_of_ble_eq_true rfl) ⟨Nat.le_refl _, Nat.le_refl _⟩ dX6_size_9) hW (fun H locs hV => ?_)
    replace hW := hV
    refine lv_if_eq (tgt := 17) X.1 X.2.1 dX6_size_12 (by decide) (fun c6 => ?_) (fun c6 => ?_)
    · replace hf := zif_pos c6 hf
      refine lv_aload_n X.1 X.2.1 dX6_size_17 rfl (lv_at hl 0 rfl) ?_
      refine ze_gtR X 6 3 23 (RX6, TX6, 11) rfl hf hW hK0 rfl (by decide) kfl_X6_23 dX6_size_18 (fun o7 hg => ?_)
      replace hf := hg
      refine lv_iload_n X.1 X.2.1 dX6_size_21 rfl (lv_at hl 1 rfl) ?_
      obtain ⟨a8, rfl, k10, hg⟩ := zh_dr hf
      replace hf := hg
      obtain ⟨o11, h12, hg⟩ := zh_bd hf
      replace hf := hg
      refine ze_aftQ0 (ze_runV (As := [.int x1]) (rest := []) X 4 107 (c_X4_term l D B n k10 h12) vX4_term kml_X6_107 hW k10 rfl rfl ⟨by decide, by decide⟩ rfl hl.1 rfl (Nat.le_of_ble_eq_true rfl) ⟨Nat.le_refl _, Nat.le_refl _⟩ dX6_size_22) hW (fun H locs hV => ?_)
      replace hW := hV
      refine ze_astore_n (i := 3) (lv' := [(3, zrf B o11), (0, .ref (B + a0)), (1, .int x1), (2, .int x2)]) X.1 X.2.1 dX6_size_25 rfl hl (by decide) rfl (fun ls hk => ?_)
      replace hl := hk
      refine ze_aload_n X.1 X.2.1 dX6_size_26 rfl (lv_at hl 0 rfl) ?_
      refine ze_ifnonnull (tgt := 33) X.1 X.2.1 dX6_size_27 (by decide) (fun a13 c14 => ?_) (fun c14 => ?_)
      · replace hf := zcs_some c14 hf
        subst c14
        refine lv_iload_n X.1 X.2.1 dX6_size_33 rfl (lv_at hl 3 rfl) ?_
        by_cases c16 : x2 = 0
        · replace hf := zif_pos c16 hf
          refine lv_tableIn (tgt := 64) X.1 X.2.1 dX6_size_34 (by rw [c16]; decide) (by rw [c16]; decide) (by rw [c16]; rfl) (by decide) ?_
          refine lv_aload_n X.1 X.2.1 dX6_size_64 rfl (lv_at hl 0 rfl) ?_
          obtain ⟨k15, hg⟩ := zh_if hf
          replace hf := hg
          refine ze_getIN X 5 3 102 (RX5, TX5, 4) rfl hW k15 rfl (by decide) kfl_X6_102 dX6_size_65 ?_
          obtain rfl := zi1 hf
          exact ze_retI X hr hlk hW (Nat.le_refl _) (Nat.le_refl _) dX6_size_68
        replace hf := zif_neg c16 hf
        by_cases c20 : x2 = 1
        · replace hf := zif_pos c20 hf
          refine lv_tableIn (tgt := 69) X.1 X.2.1 dX6_size_34 (by rw [c20]; decide) (by rw [c20]; decide) (by rw [c20]; rfl) (by decide) ?_
          refine lv_aload_n X.1 X.2.1 dX6_size_69 rfl (lv_at hl 0 rfl) ?_
          obtain ⟨k17, hg⟩ := zh_if hf
          replace hf := hg
          obtain ⟨v18, h19, hg⟩ := zh_bd hf
          replace hf := hg
          refine ze_aftI0 (ze_runV (As := []) (rest := []) X 5 130 (c_X5_symbols l D B n k17 h19) vX5_symbols kml_X6_130 hW k17 rfl rfl ⟨by decide, by decide⟩ rfl hl.1 rfl (Nat.le_of_ble_eq_true rfl) ⟨Nat.le_refl _, Nat.le_refl _⟩ dX6_size_70) hW (fun H locs hV => ?_)
          replace hW := hV
          obtain rfl := zi1 hf
          exact ze_retI X hr hlk hW (Nat.le_refl _) (Nat.le_refl _) dX6_size_73
        replace hf := zif_neg c20 hf
        by_cases c26 : x2 = 2
        · replace hf := zif_pos c26 hf
          refine lv_tableIn (tgt := 74) X.1 X.2.1 dX6_size_34 (by rw [c26]; decide) (by rw [c26]; decide) (by rw [c26]; rfl) (by decide) ?_
          refine lv_aload_n X.1 X.2.1 dX6_size_74 rfl (lv_at hl 0 rfl) ?_
          obtain ⟨k21, hg⟩ := zh_if hf
          replace hf := hg
          obtain ⟨v22, h23, hg⟩ := zh_bd hf
          replace hf := hg
          refine ze_aftI0 (ze_runV (As := []) (rest := []) X 5 134 (c_X5_holes l D B n k21 h23) vX5_holes kml_X6_134 hW k21 rfl rfl ⟨by decide, by decide⟩ rfl hl.1 rfl (Nat.le_of_ble_eq_true rfl) ⟨Nat.le_refl _, Nat.le_refl _⟩ dX6_size_75) hW (fun H locs hV => ?_)
          replace hW := hV
          obtain ⟨v24, h25, hg⟩ := zh_bd hf
          replace hf := hg
          refine ze_aftI0 (ze_runS (As := [.int v22]) (rest := []) X 137 (c_J6_bitCount_0f7a4 l D B n h25) vJ6_bitCount_0f7a4 kml_X6_137 hW ⟨by decide, by decide⟩ rfl hl.1 rfl (Nat.le_of_ble_eq_true rfl) ⟨Nat.le_refl _, Nat.le_refl _⟩ dX6_size_78) hW (fun H locs hV => ?_)
          replace hW := hV
          obtain rfl := zi1 hf
          exact ze_retI X hr hlk hW (Nat.le_refl _) (Nat.le_refl _) dX6_size_81
        replace hf := zif_neg c26 hf
        by_cases c30 : x2 = 3
        · replace hf := zif_pos c30 hf
          refine lv_tableIn (tgt := 82) X.1 X.2.1 dX6_size_34 (by rw [c30]; decide) (by rw [c30]; decide) (by rw [c30]; rfl) (by decide) ?_
          refine lv_aload_n X.1 X.2.1 dX6_size_82 rfl (lv_at hl 0 rfl) ?_
          obtain ⟨k27, hg⟩ := zh_if hf
          replace hf := hg
          obtain ⟨v28, h29, hg⟩ := zh_bd hf
          replace hf := hg
          refine ze_aftI0 (ze_runV (As := []) (rest := []) X 5 142 (c_X5_greatestDepth l D B n k27 h29) vX5_greatestDepth kml_X6_142 hW k27 rfl rfl ⟨by decide, by decide⟩ rfl hl.1 rfl (Nat.le_of_ble_eq_true rfl) ⟨Nat.le_refl _, Nat.le_refl _⟩ dX6_size_83) hW (fun H locs hV => ?_)
          replace hW := hV
          obtain rfl := zi1 hf
          exact ze_retI X hr hlk hW (Nat.le_refl _) (Nat.le_refl _) dX6_size_86
        replace hf := zif_neg c30 hf
        refine lv_tableOut (tgt := 87) X.1 X.2.1 dX6_size_34 ?_ (by decide) ?_
        · have hne : ∀ k : Int32, ¬ x2 = k → x2.toInt ≠ k.toInt := fun k h q => h (Int32.toInt_inj.mp q)
          have qc16 := hne 0 c16
          have qc20 := hne 1 c20
          have qc26 := hne 2 c26
          have qc30 := hne 3 c30
          simp at qc16 qc20 qc26 qc30
          omega
        · refine lv_aload_n X.1 X.2.1 dX6_size_87 rfl (lv_at hl 0 rfl) ?_
          obtain ⟨k31, hg⟩ := zh_if hf
          replace hf := hg
          obtain ⟨v32, h33, hg⟩ := zh_bd hf
          replace hf := hg
          refine ze_aftI0 (ze_runV (As := []) (rest := []) X 5 134 (c_X5_holes l D B n k31 h33) vX5_holes kml_X6_134 hW k31 rfl rfl ⟨by decide, by decide⟩ rfl hl.1 rfl (Nat.le_of_ble_eq_true rfl) ⟨Nat.le_refl _, Nat.le_refl _⟩ dX6_size_88) hW (fun H locs hV => ?_)
          replace hW := hV
          obtain ⟨v34, h35, hg⟩ := zh_bd hf
          replace hf := hg
          refine ze_aftI0 (ze_runS (As := [.int v32]) (rest := []) X 145 (c_X6_sumOfMembers l D B n h35) vX6_sumOfMembers kml_X6_145 hW ⟨by decide, by decide⟩ rfl hl.1 rfl (Nat.le_of_ble_eq_true rfl) ⟨Nat.le_refl _, Nat.le_refl _⟩ dX6_size_91) hW (fun H locs hV => ?_)
          replace hW := hV
          obtain rfl := zi1 hf
          exact ze_retI X hr hlk hW (Nat.le_refl _) (Nat.le_refl _) dX6_size_94
      · replace hf := zcs_none c14 hf
        subst c14
        refine lv_bipush (v := -2) X.1 X.2.1 dX6_size_30 (by decide) ?_
        obtain rfl := zi1 hf
        exact ze_retI X hr hlk hW (Nat.le_refl _) (Nat.le_refl _) dX6_size_32
    · replace hf := zif_neg c6 hf
      refine lv_iconst (v := -1) X.1 X.2.1 dX6_size_15 (by decide) ?_
      obtain rfl := zi1 hf
      exact ze_retI X hr hlk hW (Nat.le_refl _) (Nat.le_refl _) dX6_size_16
end

/-! LeastPatterns$Joiner.begin(LLeastPatterns$State;)V -/
def f_X0_begin_15 (F : Nat) (K : zK) (R : zR) (a0 : Nat)  (I : zI) (x1 : Option Nat) (s0 : Option Nat) (s1 : Int32) : Option (zI) :=
  zbd (zdr K s0 10) fun a1 =>
  if s1 = 0 ∨ s1 = 1 then
  zbd (some (zup I a1 0 s1)) fun I5 =>
  zbd (zdr K x1 14) fun a6 =>
  zbd (f_X4_setting F K I5 R a6 (1 : Int32)) fun v9 =>
  if v9 = (1 : Int32) then
    zbd (some (zup I5 a0 1 (1 : Int32))) fun I14 =>
    zbd (some (zup I14 a0 5 (0 : Int32))) fun I15 =>
    some I15
  else
    zbd (some (zup I5 a0 1 (0 : Int32))) fun I12 =>
    zbd (some (zup I12 a0 5 (0 : Int32))) fun I13 =>
    some I13
  else none
def f_X0_begin (F : Nat) (K : zK) (I : zI) (R : zR) (a0 : Nat) (x1 : Option Nat) : Option (zI) :=
  zbd (zdr K x1 14) fun a16 =>
  zbd (f_X4_setting F K I R a16 (0 : Int32)) fun v19 =>
  if v19 = (1 : Int32) then
    f_X0_begin_15 F K R a0 I (some a16) (some a0) (1 : Int32)
  else
    f_X0_begin_15 F K R a0 I (some a16) (some a0) (0 : Int32)
section
variable {p : Program} {l : Launch} {e : Env} {s : State} {m : MethodId} {args : Array Value} {below : List Frame} {meth : Method} {c : Code} {D : zD} {B n n0 n' fd ld : Nat} {K K0 K' : zK} {I I' : zI} {R R' : zR} {H : Heap} {locs : List Loc} {ls : Array Slot} {r : Int32}
set_option maxRecDepth 100000 in
set_option maxHeartbeats 4000000 in
theorem w_X0_begin_15 {F : Nat} {a0 : Nat}  (X : zX p s m c cX0_begin 2 RX0 D) (hr : meth.sig.returnType = none) (hlk : meth.locks = false) (hK0 : (K a0).1 = 10)  {x1 : Option Nat} {s0 : Option Nat} {s1 : Int32} (hf : f_X0_begin_15 F K R a0  I x1 s0 s1 = some I') (hW : zS (zOwn B K (B + n)) D B n K I R s.heap H locs) (hl : lv_has ls 2 [(0, .ref (B + a0)), (1, zrf B x1)]) : W p l e ({ frames := 2, cells := 0, slots := 0, locals := 61 } : Room) s m args below meth c H locs 0 0 (MQ below (zQv D (zOwn B K (B + n)) B n K I' R) args s 0 0 (zOwn B K (B + n))) (F0 m 15 ls [.int s1, zrf B s0]) := by
  unfold f_X0_begin_15 at hf
  obtain ⟨a1, rfl, k3, hg⟩ := zh_dr hf
  replace hf := hg
  obtain ⟨hv4, hg⟩ := zh_if hf
  replace hf := hg
  refine ze_putZ X 0 0 9 (RX0, TX0, 13) rfl hv4 hf hW k3 rfl (by decide) kfl_X0_9 rfl (by decide +kernel) dX0_begin_15 (fun I5 H locs hg hV => ?_)
  replace hf := hg
  replace hW := hV
  refine lv_aload_n X.1 X.2.1 dX0_begin_18 rfl (lv_at hl 0 rfl) ?_
  refine ze_aload_n X.1 X.2.1 dX0_begin_19 rfl (lv_at hl 1 rfl) ?_
  refine lv_iconst (v := 1) X.1 X.2.1 dX0_begin_20 (by decide) ?_
  obtain ⟨a6, rfl, k8, hg⟩ := zh_dr hf
  replace hf := hg
  obtain ⟨v9, h10, hg⟩ := zh_bd hf
  replace hf := hg
  refine ze_aftI0 (ze_runV (As := [.int (1 : Int32)]) (rest := [.ref (B + a0)]) X 4 58 (c_X4_setting l D B n k8 h10) vX4_setting kml_X0_58 hW k8 rfl rfl ⟨by decide, by decide⟩ rfl hl.1 rfl (Nat.le_of_ble_eq_true rfl) ⟨Nat.le_refl _, Nat.le_refl _⟩ dX0_begin_21) hW (fun H locs hV => ?_)
  replace hW := hV
  refine lv_iconst (v := 1) X.1 X.2.1 dX0_begin_24 (by decide) ?_
  refine lv_icmp_ne (tgt := 32) X.1 X.2.1 dX0_begin_25 (by decide) (fun c11 => ?_) (fun c11 => ?_)
  · replace hf := zif_neg c11 hf
    refine lv_iconst (v := 0) X.1 X.2.1 dX0_begin_32 (by decide) ?_
    refine ze_putZ X 0 1 15 (RX0, TX0, 13) rfl (by decide) hf hW hK0 rfl (by decide) kfl_X0_15 rfl (by decide +kernel) dX0_begin_33 (fun I12 H locs hg hV => ?_)
    replace hf := hg
    replace hW := hV
    refine lv_aload_n X.1 X.2.1 dX0_begin_36 rfl (lv_at hl 0 rfl) ?_
    refine lv_iconst (v := 0) X.1 X.2.1 dX0_begin_37 (by decide) ?_
    refine ze_putI X 0 5 31 (RX0, TX0, 13) rfl hf hW hK0 rfl (by decide) kfl_X0_31 rfl (by decide +kernel) dX0_begin_38 (fun I13 H locs hg hV => ?_)
    replace hf := hg
    replace hW := hV
    obtain rfl := zi1 hf
    exact ze_retV X hr hlk hW (Nat.le_refl _) (Nat.le_refl _) dX0_begin_41
  · replace hf := zif_pos c11 hf
    refine lv_iconst (v := 1) X.1 X.2.1 dX0_begin_28 (by decide) ?_
    refine lv_goto (tgt := 33) X.1 X.2.1 dX0_begin_29 (by decide) ?_
    refine ze_putZ X 0 1 15 (RX0, TX0, 13) rfl (by decide) hf hW hK0 rfl (by decide) kfl_X0_15 rfl (by decide +kernel) dX0_begin_33 (fun I14 H locs hg hV => ?_)
    replace hf := hg
    replace hW := hV
    refine lv_aload_n X.1 X.2.1 dX0_begin_36 rfl (lv_at hl 0 rfl) ?_
    refine lv_iconst (v := 0) X.1 X.2.1 dX0_begin_37 (by decide) ?_
    refine ze_putI X 0 5 31 (RX0, TX0, 13) rfl hf hW hK0 rfl (by decide) kfl_X0_31 rfl (by decide +kernel) dX0_begin_38 (fun I15 H locs hg hV => ?_)
    replace hf := hg
    replace hW := hV
    obtain rfl := zi1 hf
    exact ze_retV X hr hlk hW (Nat.le_refl _) (Nat.le_refl _) dX0_begin_41
set_option maxRecDepth 100000 in
set_option maxHeartbeats 4000000 in
theorem c_X0_begin (l : Launch) (D : zD) (B n : Nat) {F : Nat} {K : zK} {I : zI} {R : zR} {a0 : Nat} {x1 : Option Nat} {I' : zI} (hK0 : (K a0).1 = 10) (hf : f_X0_begin F K I R a0 x1 = some I') : zM l yX0_begin cX0_begin 2 (none) ({ frames := 2, cells := 0, slots := 0, locals := 61 } : Room) D B n K I R [.ref (B + a0), zrf B x1] (zQv D (zOwn B K (B + n)) B n K I' R) := by
  refine ze_entry (lv0 := [(0, .ref (B + a0)), (1, zrf B x1)]) (by decide) (by simp [lg_sl, zcat, zcat_i, zcat_r, zcat_l]) (by simp [lv_args, zcat, zcat_i, zcat_r, zcat_l]) (fun p e s m below meth c X hr hlk hin hW ls hl => ?_)
  unfold f_X0_begin at hf
  refine lv_aload_n X.1 X.2.1 dX0_begin_0 rfl (lv_at hl 0 rfl) ?_
  refine ze_aload_n X.1 X.2.1 dX0_begin_1 rfl (lv_at hl 1 rfl) ?_
  refine lv_iconst (v := 0) X.1 X.2.1 dX0_begin_2 (by decide) ?_
  obtain ⟨a16, rfl, k18, hg⟩ := zh_dr hf
  replace hf := hg
  obtain ⟨v19, h20, hg⟩ := zh_bd hf
  replace hf := hg
  refine ze_aftI0 (ze_runV (As := [.int (0 : Int32)]) (rest := [.ref (B + a0)]) X 4 58 (c_X4_setting l D B n k18 h20) vX4_setting kml_X0_58 hW k18 rfl rfl ⟨by decide, by decide⟩ rfl hl.1 rfl (Nat.le_of_ble_eq_true rfl) ⟨Nat.le_refl _, Nat.le_refl _⟩ dX0_begin_3) hW (fun H locs hV => ?_)
  replace hW := hV
  refine lv_iconst (v := 1) X.1 X.2.1 dX0_begin_6 (by decide) ?_
  refine lv_icmp_ne (tgt := 14) X.1 X.2.1 dX0_begin_7 (by decide) (fun c21 => ?_) (fun c21 => ?_)
  · replace hf := zif_neg c21 hf
    refine lv_iconst (v := 0) X.1 X.2.1 dX0_begin_14 (by decide) ?_
    exact w_X0_begin_15 X hr hlk hK0 hf hW hl
  · replace hf := zif_pos c21 hf
    refine lv_iconst (v := 1) X.1 X.2.1 dX0_begin_10 (by decide) ?_
    refine lv_goto (tgt := 15) X.1 X.2.1 dX0_begin_11 (by decide) ?_
    exact w_X0_begin_15 X hr hlk hK0 hf hW hl
end

/-! LeastPatterns$Joiner.standsFor(IIIIII)Z -/
def f_X0_standsFor (F : Nat) (K : zK) (I : zI) (R : zR) (a0 : Nat) (x1 : Int32) (x2 : Int32) (x3 : Int32) (x4 : Int32) (x5 : Int32) (x6 : Int32) : Option (Int32) :=
  zbd (some (R a0 7)) fun o1 =>
  zbd (zdr K o1 4) fun a2 =>
  zbd (zrdR K R a2 x1) fun o5 =>
  zbd (some (R a0 10)) fun o6 =>
  zbd (zdr K o6 4) fun a7 =>
  zbd (zrdR K R a7 x1) fun o10 =>
  zcs o5 (
    some (0 : Int32)
  ) fun a11 =>
    zcs o10 (
      some (0 : Int32)
    ) fun a13 =>
      zbd (some (R a0 6)) fun o15 =>
      zbd (zdr K o15 1) fun a16 =>
      zbd (zrd K I a16 x1) fun v19 =>
      if v19 = x2 then
        zbd (some (R a0 9)) fun o21 =>
        zbd (zdr K o21 1) fun a22 =>
        zbd (zrd K I a22 x1) fun v25 =>
        if v25 = x4 then
          zbd (some (R a0 12)) fun o27 =>
          zbd (zdr K o27 1) fun a28 =>
          zbd (zrd K I a28 x1) fun v31 =>
          if v31 = x6 then
            if x2 = (2 : Int32) then
              zbd (some (R a0 8)) fun o54 =>
              zbd (zdr K o54 1) fun a55 =>
              zbd (zrd K I a55 x1) fun v58 =>
              if (K a11).1 = 15 then
              zbd (f_X5_headOf F K I R a11 v58) fun v60 =>
              zbd (some (R a0 2)) fun o62 =>
              zbd (zdr K o62 15) fun a63 =>
              zbd (f_X5_headOf F K I R a63 x3) fun v66 =>
              if v60 = v66 then
                zbd (some (R a0 11)) fun o69 =>
                zbd (zdr K o69 1) fun a70 =>
                zbd (zrd K I a70 x1) fun v73 =>
                if (K a13).1 = 15 then
                zbd (f_X5_headOf F K I R a13 v73) fun v75 =>
                zbd (some (R a0 3)) fun o77 =>
                zbd (zdr K o77 15) fun a78 =>
                zbd (f_X5_headOf F K I R a78 x5) fun v81 =>
                if v75 = v81 then
                  some (1 : Int32)
                else
                  some (0 : Int32)
                else none
              else
                some (0 : Int32)
              else none
            else
              zbd (some (R a0 8)) fun o34 =>
              zbd (zdr K o34 1) fun a35 =>
              zbd (zrd K I a35 x1) fun v38 =>
              zbd (some (R a0 2)) fun o39 =>
              if (K a11).1 = 15 then
              zbd (f_X5_compareNodes F K I R a11 v38 o39 x3 x4) fun v41 =>
              if v41 = (0 : Int32) then
                zbd (some (R a0 11)) fun o44 =>
                zbd (zdr K o44 1) fun a45 =>
                zbd (zrd K I a45 x1) fun v48 =>
                zbd (some (R a0 3)) fun o49 =>
                if (K a13).1 = 15 then
                zbd (f_X5_compareNodes F K I R a13 v48 o49 x5 x6) fun v51 =>
                if v51 = (0 : Int32) then
                  some (1 : Int32)
                else
                  some (0 : Int32)
                else none
              else
                some (0 : Int32)
              else none
          else
            some (0 : Int32)
        else
          some (0 : Int32)
      else
        some (0 : Int32)
section
variable {p : Program} {l : Launch} {e : Env} {s : State} {m : MethodId} {args : Array Value} {below : List Frame} {meth : Method} {c : Code} {D : zD} {B n n0 n' fd ld : Nat} {K K0 K' : zK} {I I' : zI} {R R' : zR} {H : Heap} {locs : List Loc} {ls : Array Slot} {r : Int32}
set_option maxRecDepth 100000 in
set_option maxHeartbeats 4000000 in
theorem c_X0_standsFor (l : Launch) (D : zD) (B n : Nat) {F : Nat} {K : zK} {I : zI} {R : zR} {a0 : Nat} {x1 : Int32} {x2 : Int32} {x3 : Int32} {x4 : Int32} {x5 : Int32} {x6 : Int32} {r : Int32} (hK0 : (K a0).1 = 10) (hf : f_X0_standsFor F K I R a0 x1 x2 x3 x4 x5 x6 = some r) : zM l yX0_standsFor cX0_standsFor 9 (some .boolean) ({ frames := 2, cells := 0, slots := 0, locals := 67 } : Room) D B n K I R [.ref (B + a0), .int x1, .int x2, .int x3, .int x4, .int x5, .int x6] (zQi D (zOwn B K (B + n)) r B n K I R) := by
  refine ze_entry (lv0 := [(0, .ref (B + a0)), (1, .int x1), (2, .int x2), (3, .int x3), (4, .int x4), (5, .int x5), (6, .int x6)]) (by decide) (by simp [lg_sl, zcat, zcat_i, zcat_r, zcat_l]) (by simp [lv_args, zcat, zcat_i, zcat_r, zcat_l]) (fun p e s m below meth c X hr hlk hin hW ls hl => ?_)
  unfold f_X0_standsFor at hf
  refine lv_aload_n X.1 X.2.1 dX0_standsFor_0 rfl (lv_at hl 0 rfl) ?_
  refine ze_gtR X 0 7 39 (RX0, TX0, 13) rfl hf hW hK0 rfl (by decide) kfl_X0_39 dX0_standsFor_1 (fun o1 hg => ?_)
  replace hf := hg
  refine lv_iload_n X.1 X.2.1 dX0_standsFor_4 rfl (lv_at hl 1 rfl) ?_
  obtain ⟨a2, rfl, k4, hg⟩ := zh_dr hf
  replace hf := hg
  refine ze_aald X 4 (by decide) hf hW k4 dX0_standsFor_5 (fun o5 hg => ?_)
  replace hf := hg
  refine ze_astore (lv' := [(7, zrf B o5), (0, .ref (B + a0)), (1, .int x1), (2, .int x2), (3, .int x3), (4, .int x4), (5, .int x5), (6, .int x6)]) X.1 X.2.1 dX0_standsFor_6 hl (by decide) rfl (fun ls hk => ?_)
  replace hl := hk
  refine lv_aload_n X.1 X.2.1 dX0_standsFor_8 rfl (lv_at hl 1 rfl) ?_
  refine ze_gtR X 0 10 49 (RX0, TX0, 13) rfl hf hW hK0 rfl (by decide) kfl_X0_49 dX0_standsFor_9 (fun o6 hg => ?_)
  replace hf := hg
  refine lv_iload_n X.1 X.2.1 dX0_standsFor_12 rfl (lv_at hl 2 rfl) ?_
  obtain ⟨a7, rfl, k9, hg⟩ := zh_dr hf
  replace hf := hg
  refine ze_aald X 4 (by decide) hf hW k9 dX0_standsFor_13 (fun o10 hg => ?_)
  replace hf := hg
  refine ze_astore (lv' := [(8, zrf B o10), (7, zrf B o5), (0, .ref (B + a0)), (1, .int x1), (2, .int x2), (3, .int x3), (4, .int x4), (5, .int x5), (6, .int x6)]) X.1 X.2.1 dX0_standsFor_14 hl (by decide) (by first | rfl | (simp [zcat, zcat_i, zcat_r, zcat_l, zrf_some]; done) | (simp [zcat, zcat_i, zcat_r, zcat_l, zrf_some]; decide)) (fun ls hk => ?_)
  replace hl := hk
  refine ze_aload X.1 X.2.1 dX0_standsFor_16 (lv_at hl 1 rfl) ?_
  refine ze_ifnull (tgt := 58) X.1 X.2.1 dX0_standsFor_18 (by decide) (fun c12 => ?_) (fun a11 c12 => ?_)
  · replace hf := zcs_none c12 hf
    subst c12
    refine lv_iconst (v := 0) X.1 X.2.1 dX0_standsFor_58 (by decide) ?_
    obtain rfl := zi1 hf
    exact ze_retZ X hr hlk (by decide) hW (Nat.le_refl _) (Nat.le_refl _) dX0_standsFor_59
  · replace hf := zcs_some c12 hf
    subst c12
    refine ze_aload X.1 X.2.1 dX0_standsFor_21 (lv_at hl 0 rfl) ?_
    refine ze_ifnull (tgt := 58) X.1 X.2.1 dX0_standsFor_23 (by decide) (fun c14 => ?_) (fun a13 c14 => ?_)
    · replace hf := zcs_none c14 hf
      subst c14
      refine lv_iconst (v := 0) X.1 X.2.1 dX0_standsFor_58 (by decide) ?_
      obtain rfl := zi1 hf
      exact ze_retZ X hr hlk (by decide) hW (Nat.le_refl _) (Nat.le_refl _) dX0_standsFor_59
    · replace hf := zcs_some c14 hf
      subst c14
      refine lv_aload_n X.1 X.2.1 dX0_standsFor_26 rfl (lv_at hl 2 rfl) ?_
      refine ze_gtR X 0 6 35 (RX0, TX0, 13) rfl hf hW hK0 rfl (by decide) kfl_X0_35 dX0_standsFor_27 (fun o15 hg => ?_)
      replace hf := hg
      refine lv_iload_n X.1 X.2.1 dX0_standsFor_30 rfl (lv_at hl 3 rfl) ?_
      obtain ⟨a16, rfl, k18, hg⟩ := zh_dr hf
      replace hf := hg
      refine ze_iald X hf hW k18 dX0_standsFor_31 (fun v19 hg => ?_)
      replace hf := hg
      refine lv_iload_n X.1 X.2.1 dX0_standsFor_32 rfl (lv_at hl 4 rfl) ?_
      refine lv_icmp_ne (tgt := 58) X.1 X.2.1 dX0_standsFor_33 (by decide) (fun c20 => ?_) (fun c20 => ?_)
      · replace hf := zif_neg c20 hf
        refine lv_iconst (v := 0) X.1 X.2.1 dX0_standsFor_58 (by decide) ?_
        obtain rfl := zi1 hf
        exact ze_retZ X hr hlk (by decide) hW (Nat.le_refl _) (Nat.le_refl _) dX0_standsFor_59
      · replace hf := zif_pos c20 hf
        refine lv_aload_n X.1 X.2.1 dX0_standsFor_36 rfl (lv_at hl 2 rfl) ?_
        refine ze_gtR X 0 9 46 (RX0, TX0, 13) rfl hf hW hK0 rfl (by decide) kfl_X0_46 dX0_standsFor_37 (fun o21 hg => ?_)
        replace hf := hg
        refine lv_iload_n X.1 X.2.1 dX0_standsFor_40 rfl (lv_at hl 3 rfl) ?_
        obtain ⟨a22, rfl, k24, hg⟩ := zh_dr hf
        replace hf := hg
        refine ze_iald X hf hW k24 dX0_standsFor_41 (fun v25 hg => ?_)
        replace hf := hg
        refine lv_iload X.1 X.2.1 dX0_standsFor_42 (lv_at hl 6 rfl) ?_
        refine lv_icmp_ne (tgt := 58) X.1 X.2.1 dX0_standsFor_44 (by decide) (fun c26 => ?_) (fun c26 => ?_)
        · replace hf := zif_neg c26 hf
          refine lv_iconst (v := 0) X.1 X.2.1 dX0_standsFor_58 (by decide) ?_
          obtain rfl := zi1 hf
          exact ze_retZ X hr hlk (by decide) hW (Nat.le_refl _) (Nat.le_refl _) dX0_standsFor_59
        · replace hf := zif_pos c26 hf
          refine lv_aload_n X.1 X.2.1 dX0_standsFor_47 rfl (lv_at hl 2 rfl) ?_
          refine ze_gtR X 0 12 55 (RX0, TX0, 13) rfl hf hW hK0 rfl (by decide) kfl_X0_55 dX0_standsFor_48 (fun o27 hg => ?_)
          replace hf := hg
          refine lv_iload_n X.1 X.2.1 dX0_standsFor_51 rfl (lv_at hl 3 rfl) ?_
          obtain ⟨a28, rfl, k30, hg⟩ := zh_dr hf
          replace hf := hg
          refine ze_iald X hf hW k30 dX0_standsFor_52 (fun v31 hg => ?_)
          replace hf := hg
          refine lv_iload X.1 X.2.1 dX0_standsFor_53 (lv_at hl 8 rfl) ?_
          refine lv_icmp_eq (tgt := 60) X.1 X.2.1 dX0_standsFor_55 (by decide) (fun c32 => ?_) (fun c32 => ?_)
          · replace hf := zif_pos c32 hf
            refine lv_iload_n X.1 X.2.1 dX0_standsFor_60 rfl (lv_at hl 4 rfl) ?_
            refine lv_iconst (v := 2) X.1 X.2.1 dX0_standsFor_61 (by decide) ?_
            refine lv_icmp_ne (tgt := 116) X.1 X.2.1 dX0_standsFor_62 (by decide) (fun c33 => ?_) (fun c33 => ?_)
            · replace hf := zif_neg c33 hf
              refine lv_aload X.1 X.2.1 dX0_standsFor_116 (lv_at hl 1 rfl) ?_
              refine lv_aload_n X.1 X.2.1 dX0_standsFor_118 rfl (lv_at hl 2 rfl) ?_
              refine ze_gtR X 0 8 43 (RX0, TX0, 13) rfl hf hW hK0 rfl (by decide) kfl_X0_43 dX0_standsFor_119 (fun o34 hg => ?_)
              replace hf := hg
              refine lv_iload_n X.1 X.2.1 dX0_standsFor_122 rfl (lv_at hl 3 rfl) ?_
              obtain ⟨a35, rfl, k37, hg⟩ := zh_dr hf
              replace hf := hg
              refine ze_iald X hf hW k37 dX0_standsFor_123 (fun v38 hg => ?_)
              replace hf := hg
              refine lv_aload_n X.1 X.2.1 dX0_standsFor_124 rfl (lv_at hl 2 rfl) ?_
              refine ze_gtR X 0 2 21 (RX0, TX0, 13) rfl hf hW hK0 rfl (by decide) kfl_X0_21 dX0_standsFor_125 (fun o39 hg => ?_)
              replace hf := hg
              refine lv_iload_n X.1 X.2.1 dX0_standsFor_128 rfl (lv_at hl 5 rfl) ?_
              refine lv_iload X.1 X.2.1 dX0_standsFor_129 (lv_at hl 6 rfl) ?_
              obtain ⟨k40, hg⟩ := zh_if hf
              replace hf := hg
              obtain ⟨v41, h42, hg⟩ := zh_bd hf
              replace hf := hg
              refine ze_aftI0 (ze_runV (As := [.int v38, zrf B o39, .int x3, .int x4]) (rest := []) X 5 119 (c_X5_compareNodes l D B n k40 h42) vX5_compareNodes kml_X0_119 hW k40 rfl rfl ⟨by decide, by decide⟩ rfl hl.1 rfl (Nat.le_of_ble_eq_true rfl) ⟨Nat.le_refl _, Nat.le_refl _⟩ dX0_standsFor_131) hW (fun H locs hV => ?_)
              replace hW := hV
              refine lv_if_ne (tgt := 163) X.1 X.2.1 dX0_standsFor_134 (by decide) (fun c43 => ?_) (fun c43 => ?_)
              · replace hf := zif_neg c43 hf
                refine lv_iconst (v := 0) X.1 X.2.1 dX0_standsFor_163 (by decide) ?_
                obtain rfl := zi1 hf
                exact ze_retZ X hr hlk (by decide) hW (Nat.le_refl _) (Nat.le_refl _) dX0_standsFor_164
              · replace hf := zif_pos c43 hf
                refine lv_aload X.1 X.2.1 dX0_standsFor_137 (lv_at hl 0 rfl) ?_
                refine lv_aload_n X.1 X.2.1 dX0_standsFor_139 rfl (lv_at hl 2 rfl) ?_
                refine ze_gtR X 0 11 52 (RX0, TX0, 13) rfl hf hW hK0 rfl (by decide) kfl_X0_52 dX0_standsFor_140 (fun o44 hg => ?_)
                replace hf := hg
                refine lv_iload_n X.1 X.2.1 dX0_standsFor_143 rfl (lv_at hl 3 rfl) ?_
                obtain ⟨a45, rfl, k47, hg⟩ := zh_dr hf
                replace hf := hg
                refine ze_iald X hf hW k47 dX0_standsFor_144 (fun v48 hg => ?_)
                replace hf := hg
                refine lv_aload_n X.1 X.2.1 dX0_standsFor_145 rfl (lv_at hl 2 rfl) ?_
                refine ze_gtR X 0 3 25 (RX0, TX0, 13) rfl hf hW hK0 rfl (by decide) kfl_X0_25 dX0_standsFor_146 (fun o49 hg => ?_)
                replace hf := hg
                refine lv_iload X.1 X.2.1 dX0_standsFor_149 (lv_at hl 7 rfl) ?_
                refine lv_iload X.1 X.2.1 dX0_standsFor_151 (lv_at hl 8 rfl) ?_
                obtain ⟨k50, hg⟩ := zh_if hf
                replace hf := hg
                obtain ⟨v51, h52, hg⟩ := zh_bd hf
                replace hf := hg
                refine ze_aftI0 (ze_runV (As := [.int v48, zrf B o49, .int x5, .int x6]) (rest := []) X 5 119 (c_X5_compareNodes l D B n k50 h52) vX5_compareNodes kml_X0_119 hW k50 rfl rfl ⟨by decide, by decide⟩ rfl hl.1 rfl (Nat.le_of_ble_eq_true rfl) ⟨Nat.le_refl _, Nat.le_refl _⟩ dX0_standsFor_153) hW (fun H locs hV => ?_)
                replace hW := hV
                refine lv_if_ne (tgt := 163) X.1 X.2.1 dX0_standsFor_156 (by decide) (fun c53 => ?_) (fun c53 => ?_)
                · replace hf := zif_neg c53 hf
                  refine lv_iconst (v := 0) X.1 X.2.1 dX0_standsFor_163 (by decide) ?_
                  obtain rfl := zi1 hf
                  exact ze_retZ X hr hlk (by decide) hW (Nat.le_refl _) (Nat.le_refl _) dX0_standsFor_164
                · replace hf := zif_pos c53 hf
                  refine lv_iconst (v := 1) X.1 X.2.1 dX0_standsFor_159 (by decide) ?_
                  refine lv_goto (tgt := 164) X.1 X.2.1 dX0_standsFor_160 (by decide) ?_
                  obtain rfl := zi1 hf
                  exact ze_retZ X hr hlk (by decide) hW (Nat.le_refl _) (Nat.le_refl _) dX0_standsFor_164
            · replace hf := zif_pos c33 hf
              refine lv_aload X.1 X.2.1 dX0_standsFor_65 (lv_at hl 1 rfl) ?_
              refine lv_aload_n X.1 X.2.1 dX0_standsFor_67 rfl (lv_at hl 2 rfl) ?_
              refine ze_gtR X 0 8 43 (RX0, TX0, 13) rfl hf hW hK0 rfl (by decide) kfl_X0_43 dX0_standsFor_68 (fun o54 hg => ?_)
              replace hf := hg
              refine lv_iload_n X.1 X.2.1 dX0_standsFor_71 rfl (lv_at hl 3 rfl) ?_
              obtain ⟨a55, rfl, k57, hg⟩ := zh_dr hf
              replace hf := hg
              refine ze_iald X hf hW k57 dX0_standsFor_72 (fun v58 hg => ?_)
              replace hf := hg
              obtain ⟨k59, hg⟩ := zh_if hf
              replace hf := hg
              obtain ⟨v60, h61, hg⟩ := zh_bd hf
              replace hf := hg
              refine ze_aftI0 (ze_runV (As := [.int v58]) (rest := []) X 5 84 (c_X5_headOf l D B n k59 h61) vX5_headOf kml_X0_84 hW k59 rfl rfl ⟨by decide, by decide⟩ rfl hl.1 rfl (Nat.le_of_ble_eq_true rfl) ⟨Nat.le_refl _, Nat.le_refl _⟩ dX0_standsFor_73) hW (fun H locs hV => ?_)
              replace hW := hV
              refine lv_aload_n X.1 X.2.1 dX0_standsFor_76 rfl (lv_at hl 2 rfl) ?_
              refine ze_gtR X 0 2 21 (RX0, TX0, 13) rfl hf hW hK0 rfl (by decide) kfl_X0_21 dX0_standsFor_77 (fun o62 hg => ?_)
              replace hf := hg
              refine lv_iload_n X.1 X.2.1 dX0_standsFor_80 rfl (lv_at hl 5 rfl) ?_
              obtain ⟨a63, rfl, k65, hg⟩ := zh_dr hf
              replace hf := hg
              obtain ⟨v66, h67, hg⟩ := zh_bd hf
              replace hf := hg
              refine ze_aftI0 (ze_runV (As := [.int x3]) (rest := [.int v60]) X 5 84 (c_X5_headOf l D B n k65 h67) vX5_headOf kml_X0_84 hW k65 rfl rfl ⟨by decide, by decide⟩ rfl hl.1 rfl (Nat.le_of_ble_eq_true rfl) ⟨Nat.le_refl _, Nat.le_refl _⟩ dX0_standsFor_81) hW (fun H locs hV => ?_)
              replace hW := hV
              refine lv_icmp_ne (tgt := 114) X.1 X.2.1 dX0_standsFor_84 (by decide) (fun c68 => ?_) (fun c68 => ?_)
              · replace hf := zif_neg c68 hf
                refine lv_iconst (v := 0) X.1 X.2.1 dX0_standsFor_114 (by decide) ?_
                obtain rfl := zi1 hf
                exact ze_retZ X hr hlk (by decide) hW (Nat.le_refl _) (Nat.le_refl _) dX0_standsFor_115
              · replace hf := zif_pos c68 hf
                refine lv_aload X.1 X.2.1 dX0_standsFor_87 (lv_at hl 0 rfl) ?_
                refine lv_aload_n X.1 X.2.1 dX0_standsFor_89 rfl (lv_at hl 2 rfl) ?_
                refine ze_gtR X 0 11 52 (RX0, TX0, 13) rfl hf hW hK0 rfl (by decide) kfl_X0_52 dX0_standsFor_90 (fun o69 hg => ?_)
                replace hf := hg
                refine lv_iload_n X.1 X.2.1 dX0_standsFor_93 rfl (lv_at hl 3 rfl) ?_
                obtain ⟨a70, rfl, k72, hg⟩ := zh_dr hf
                replace hf := hg
                refine ze_iald X hf hW k72 dX0_standsFor_94 (fun v73 hg => ?_)
                replace hf := hg
                obtain ⟨k74, hg⟩ := zh_if hf
                replace hf := hg
                obtain ⟨v75, h76, hg⟩ := zh_bd hf
                replace hf := hg
                refine ze_aftI0 (ze_runV (As := [.int v73]) (rest := []) X 5 84 (c_X5_headOf l D B n k74 h76) vX5_headOf kml_X0_84 hW k74 rfl rfl ⟨by decide, by decide⟩ rfl hl.1 rfl (Nat.le_of_ble_eq_true rfl) ⟨Nat.le_refl _, Nat.le_refl _⟩ dX0_standsFor_95) hW (fun H locs hV => ?_)
                replace hW := hV
                refine lv_aload_n X.1 X.2.1 dX0_standsFor_98 rfl (lv_at hl 2 rfl) ?_
                refine ze_gtR X 0 3 25 (RX0, TX0, 13) rfl hf hW hK0 rfl (by decide) kfl_X0_25 dX0_standsFor_99 (fun o77 hg => ?_)
                replace hf := hg
                refine lv_iload X.1 X.2.1 dX0_standsFor_102 (lv_at hl 7 rfl) ?_
                obtain ⟨a78, rfl, k80, hg⟩ := zh_dr hf
                replace hf := hg
                obtain ⟨v81, h82, hg⟩ := zh_bd hf
                replace hf := hg
                refine ze_aftI0 (ze_runV (As := [.int x5]) (rest := [.int v75]) X 5 84 (c_X5_headOf l D B n k80 h82) vX5_headOf kml_X0_84 hW k80 rfl rfl ⟨by decide, by decide⟩ rfl hl.1 rfl (Nat.le_of_ble_eq_true rfl) ⟨Nat.le_refl _, Nat.le_refl _⟩ dX0_standsFor_104) hW (fun H locs hV => ?_)
                replace hW := hV
                refine lv_icmp_ne (tgt := 114) X.1 X.2.1 dX0_standsFor_107 (by decide) (fun c83 => ?_) (fun c83 => ?_)
                · replace hf := zif_neg c83 hf
                  refine lv_iconst (v := 0) X.1 X.2.1 dX0_standsFor_114 (by decide) ?_
                  obtain rfl := zi1 hf
                  exact ze_retZ X hr hlk (by decide) hW (Nat.le_refl _) (Nat.le_refl _) dX0_standsFor_115
                · replace hf := zif_pos c83 hf
                  refine lv_iconst (v := 1) X.1 X.2.1 dX0_standsFor_110 (by decide) ?_
                  refine lv_goto (tgt := 115) X.1 X.2.1 dX0_standsFor_111 (by decide) ?_
                  obtain rfl := zi1 hf
                  exact ze_retZ X hr hlk (by decide) hW (Nat.le_refl _) (Nat.le_refl _) dX0_standsFor_115
          · replace hf := zif_neg c32 hf
            refine lv_iconst (v := 0) X.1 X.2.1 dX0_standsFor_58 (by decide) ?_
            obtain rfl := zi1 hf
            exact ze_retZ X hr hlk (by decide) hW (Nat.le_refl _) (Nat.le_refl _) dX0_standsFor_59
end

/-! LeastPatterns$Joiner.appendHole(IIIIII)Z -/
def f_X0_appendHole_135 (F : Nat) (K : zK) (a0 : Nat)  (I : zI) (R : zR) (x1 : Int32) (x2 : Int32) (x7 : Int32) : Option (Int32 × zI × zR) :=
  zbd (some (R a0 4)) fun o1 =>
  zbd (zdr K o1 15) fun a2 =>
  zbd2 (f_X5_append F K I R a2 ((x1 <<< ((4 : Int32) &&& 31)) ||| x7) x2) fun v5 I6 =>
  if v5 = 0 ∨ v5 = 1 then
  some (v5, I6, R)
  else
  none
def f_X0_appendHole_42 (F : Nat) (K : zK) (a0 : Nat)  (I : zI) (R : zR) (x1 : Int32) (x2 : Int32) (x3 : Int32) (x4 : Int32) (x5 : Int32) (x6 : Int32) (x7 : Int32) : Option (Int32 × zI × zR) :=
  if x7 < (10 : Int32) then
    if x7 = (I a0 5) then
      zbd (some (R a0 6)) fun o11 =>
      zbd (zdr K o11 1) fun a12 =>
      zbd (zwr K I a12 x7 x1) fun I15 =>
      zbd (some (R a0 7)) fun o16 =>
      zbd (some (R a0 2)) fun o17 =>
      zbd (zdr K o16 4) fun a18 =>
      zbd (zwrR K R a18 x7 o17 15) fun R21 =>
      zbd (some (R21 a0 8)) fun o22 =>
      zbd (zdr K o22 1) fun a23 =>
      zbd (zwr K I15 a23 x7 x3) fun I26 =>
      zbd (some (R21 a0 9)) fun o27 =>
      zbd (zdr K o27 1) fun a28 =>
      zbd (zwr K I26 a28 x7 x4) fun I31 =>
      zbd (some (R21 a0 10)) fun o32 =>
      zbd (some (R21 a0 3)) fun o33 =>
      zbd (zdr K o32 4) fun a34 =>
      zbd (zwrR K R21 a34 x7 o33 15) fun R37 =>
      zbd (some (R37 a0 11)) fun o38 =>
      zbd (zdr K o38 1) fun a39 =>
      zbd (zwr K I31 a39 x7 x5) fun I42 =>
      zbd (some (R37 a0 12)) fun o43 =>
      zbd (zdr K o43 1) fun a44 =>
      zbd (zwr K I42 a44 x7 x6) fun I47 =>
      zbd (some (zup I47 a0 5 ((I47 a0 5) + (1 : Int32)))) fun I48 =>
      f_X0_appendHole_135 F K a0 I48 R37 x1 x2 x7
    else
      f_X0_appendHole_135 F K a0 I R x1 x2 x7
  else
    some ((0 : Int32), I, R)
def g_X0_appendHole_3 (F : Nat) (K : zK) (a0 : Nat)  (kself : zI → zR → Int32 → Int32 → Int32 → Int32 → Int32 → Int32 → Int32 → Option (Int32 × zI × zR)) (I : zI) (R : zR) (x1 : Int32) (x2 : Int32) (x3 : Int32) (x4 : Int32) (x5 : Int32) (x6 : Int32) (x7 : Int32) : Option (Int32 × zI × zR) :=
  if (I a0 5) ≤ x7 then
    f_X0_appendHole_42 F K a0 I R x1 x2 x3 x4 x5 x6 x7
  else
    if (10 : Int32) ≤ x7 then
      f_X0_appendHole_42 F K a0 I R x1 x2 x3 x4 x5 x6 x7
    else
      zbd (f_X0_standsFor F K I R a0 x7 x1 x3 x4 x5 x6) fun v51 =>
      if v51 = (0 : Int32) then
        kself I R x1 x2 x3 x4 x5 x6 (x7 + (1 : Int32))
      else
        f_X0_appendHole_42 F K a0 I R x1 x2 x3 x4 x5 x6 x7
def f_X0_appendHole_3 (F : Nat) (K : zK) (a0 : Nat)  : Nat → zI → zR → Int32 → Int32 → Int32 → Int32 → Int32 → Int32 → Int32 → Option (Int32 × zI × zR)
  | 0, _, _, _, _, _, _, _, _, _ => none
  | t + 1, I, R, x1, x2, x3, x4, x5, x6, x7 => g_X0_appendHole_3 F K a0  (f_X0_appendHole_3 F K a0  t) I R x1 x2 x3 x4 x5 x6 x7
def f_X0_appendHole (F : Nat) (K : zK) (I : zI) (R : zR) (a0 : Nat) (x1 : Int32) (x2 : Int32) (x3 : Int32) (x4 : Int32) (x5 : Int32) (x6 : Int32) : Option (Int32 × zI × zR) :=
  f_X0_appendHole_3 F K a0 F I R x1 x2 x3 x4 x5 x6 (0 : Int32)
section
variable {p : Program} {l : Launch} {e : Env} {s : State} {m : MethodId} {args : Array Value} {below : List Frame} {meth : Method} {c : Code} {D : zD} {B n n0 n' fd ld : Nat} {K K0 K' : zK} {I I' : zI} {R R' : zR} {H : Heap} {locs : List Loc} {ls : Array Slot} {r : Int32}
set_option maxRecDepth 100000 in
set_option maxHeartbeats 4000000 in
theorem w_X0_appendHole_135 {F : Nat} {a0 : Nat}  (X : zX p s m c cX0_appendHole 8 RX0 D) (hr : meth.sig.returnType = some .boolean) (hlk : meth.locks = false) (hK0 : (K a0).1 = 10)  {x1 : Int32} {x2 : Int32} {x7 : Int32} (hf : f_X0_appendHole_135 F K a0  I R x1 x2 x7 = some (r, I', R')) (hW : zS (zOwn B K (B + n)) D B n K I R s.heap H locs) (hl : lv_has ls 8 [(0, .ref (B + a0)), (1, .int x1), (2, .int x2), (7, .int x7)]) : W p l e ({ frames := 3, cells := 0, slots := 0, locals := 95 } : Room) s m args below meth c H locs 0 0 (MQ below (zQi D (zOwn B K (B + n)) r B n K I' R') args s 0 0 (zOwn B K (B + n))) (F0 m 135 ls []) := by
  unfold f_X0_appendHole_135 at hf
  refine lv_aload_n X.1 X.2.1 dX0_appendHole_135 rfl (lv_at hl 0 rfl) ?_
  refine ze_gtR X 0 4 28 (RX0, TX0, 13) rfl hf hW hK0 rfl (by decide) kfl_X0_28 dX0_appendHole_136 (fun o1 hg => ?_)
  replace hf := hg
  refine lv_iload_n X.1 X.2.1 dX0_appendHole_139 rfl (lv_at hl 1 rfl) ?_
  refine lv_iconst (v := 4) X.1 X.2.1 dX0_appendHole_140 (by decide) ?_
  refine lv_ishl X.1 X.2.1 dX0_appendHole_141 ?_
  refine lv_iload X.1 X.2.1 dX0_appendHole_142 (lv_at hl 3 rfl) ?_
  refine lv_ior X.1 X.2.1 dX0_appendHole_144 ?_
  refine lv_iload_n X.1 X.2.1 dX0_appendHole_145 rfl (lv_at hl 2 rfl) ?_
  obtain ⟨a2, rfl, k4, hg⟩ := zh_dr hf
  replace hf := hg
  obtain ⟨v5, I6, h7, hg⟩ := zh_bd2 hf
  replace hf := hg
  refine ze_aftI0 (ze_runV (As := [.int ((x1 <<< ((4 : Int32) &&& 31)) ||| x7), .int x2]) (rest := []) X 5 87 (c_X5_append l D B n k4 h7) vX5_append kml_X0_87 hW k4 rfl rfl ⟨by decide, by decide⟩ rfl hl.1 rfl (Nat.le_of_ble_eq_true rfl) ⟨Nat.le_refl _, Nat.le_refl _⟩ dX0_appendHole_146) hW (fun H locs hV => ?_)
  replace hW := hV
  obtain ⟨hv8, hg⟩ := zh_if hf
  replace hf := hg
  obtain ⟨rfl, rfl, rfl⟩ := zi3 hf
  exact ze_retZ X hr hlk hv8 hW (Nat.le_refl _) (Nat.le_refl _) dX0_appendHole_149
set_option maxRecDepth 100000 in
set_option maxHeartbeats 4000000 in
theorem w_X0_appendHole_42 {F : Nat} {a0 : Nat}  (X : zX p s m c cX0_appendHole 8 RX0 D) (hr : meth.sig.returnType = some .boolean) (hlk : meth.locks = false) (hK0 : (K a0).1 = 10)  {x1 : Int32} {x2 : Int32} {x3 : Int32} {x4 : Int32} {x5 : Int32} {x6 : Int32} {x7 : Int32} (hf : f_X0_appendHole_42 F K a0  I R x1 x2 x3 x4 x5 x6 x7 = some (r, I', R')) (hW : zS (zOwn B K (B + n)) D B n K I R s.heap H locs) (hl : lv_has ls 8 [(0, .ref (B + a0)), (1, .int x1), (2, .int x2), (3, .int x3), (4, .int x4), (5, .int x5), (6, .int x6), (7, .int x7)]) : W p l e ({ frames := 3, cells := 0, slots := 0, locals := 95 } : Room) s m args below meth c H locs 0 0 (MQ below (zQi D (zOwn B K (B + n)) r B n K I' R') args s 0 0 (zOwn B K (B + n))) (F0 m 42 ls []) := by
  unfold f_X0_appendHole_42 at hf
  refine lv_iload X.1 X.2.1 dX0_appendHole_42 (lv_at hl 7 rfl) ?_
  refine lv_bipush (v := 10) X.1 X.2.1 dX0_appendHole_44 (by decide) ?_
  refine lv_icmp_lt (tgt := 51) X.1 X.2.1 dX0_appendHole_46 (by decide) (fun c9 => ?_) (fun c9 => ?_)
  · replace hf := zif_pos c9 hf
    refine lv_iload X.1 X.2.1 dX0_appendHole_51 (lv_at hl 7 rfl) ?_
    refine lv_aload_n X.1 X.2.1 dX0_appendHole_53 rfl (lv_at hl 0 rfl) ?_
    refine ze_getI X 0 5 31 (RX0, TX0, 13) rfl hW hK0 rfl (by decide) kfl_X0_31 dX0_appendHole_54 ?_
    refine lv_icmp_ne (tgt := 135) X.1 X.2.1 dX0_appendHole_57 (by decide) (fun c10 => ?_) (fun c10 => ?_)
    · replace hf := zif_neg c10 hf
      exact w_X0_appendHole_135 X hr hlk hK0 hf hW (lv_sub hl [0, 1, 2, 7] rfl)
    · replace hf := zif_pos c10 hf
      refine lv_aload_n X.1 X.2.1 dX0_appendHole_60 rfl (lv_at hl 0 rfl) ?_
      refine ze_gtR X 0 6 35 (RX0, TX0, 13) rfl hf hW hK0 rfl (by decide) kfl_X0_35 dX0_appendHole_61 (fun o11 hg => ?_)
      replace hf := hg
      refine lv_iload X.1 X.2.1 dX0_appendHole_64 (lv_at hl 7 rfl) ?_
      refine lv_iload_n X.1 X.2.1 dX0_appendHole_66 rfl (lv_at hl 1 rfl) ?_
      obtain ⟨a12, rfl, k14, hg⟩ := zh_dr hf
      replace hf := hg
      refine ze_iast X hf hW k14 dX0_appendHole_67 (fun I15 H locs hg hV => ?_)
      replace hf := hg
      replace hW := hV
      refine lv_aload_n X.1 X.2.1 dX0_appendHole_68 rfl (lv_at hl 0 rfl) ?_
      refine ze_gtR X 0 7 39 (RX0, TX0, 13) rfl hf hW hK0 rfl (by decide) kfl_X0_39 dX0_appendHole_69 (fun o16 hg => ?_)
      replace hf := hg
      refine lv_iload X.1 X.2.1 dX0_appendHole_72 (lv_at hl 7 rfl) ?_
      refine lv_aload_n X.1 X.2.1 dX0_appendHole_74 rfl (lv_at hl 0 rfl) ?_
      refine ze_gtR X 0 2 21 (RX0, TX0, 13) rfl hf hW hK0 rfl (by decide) kfl_X0_21 dX0_appendHole_75 (fun o17 hg => ?_)
      replace hf := hg
      obtain ⟨a18, rfl, k20, hg⟩ := zh_dr hf
      replace hf := hg
      refine ze_aast (x := o17) X 4 (by decide) hf hW k20 dX0_appendHole_78 (fun R21 H locs hg hV => ?_)
      replace hf := hg
      replace hW := hV
      refine lv_aload_n X.1 X.2.1 dX0_appendHole_79 rfl (lv_at hl 0 rfl) ?_
      refine ze_gtR X 0 8 43 (RX0, TX0, 13) rfl hf hW hK0 rfl (by decide) kfl_X0_43 dX0_appendHole_80 (fun o22 hg => ?_)
      replace hf := hg
      refine lv_iload X.1 X.2.1 dX0_appendHole_83 (lv_at hl 7 rfl) ?_
      refine lv_iload_n X.1 X.2.1 dX0_appendHole_85 rfl (lv_at hl 3 rfl) ?_
      obtain ⟨a23, rfl, k25, hg⟩ := zh_dr hf
      replace hf := hg
      refine ze_iast X hf hW k25 dX0_appendHole_86 (fun I26 H locs hg hV => ?_)
      replace hf := hg
      replace hW := hV
      refine lv_aload_n X.1 X.2.1 dX0_appendHole_87 rfl (lv_at hl 0 rfl) ?_
      refine ze_gtR X 0 9 46 (RX0, TX0, 13) rfl hf hW hK0 rfl (by decide) kfl_X0_46 dX0_appendHole_88 (fun o27 hg => ?_)
      replace hf := hg
      refine lv_iload X.1 X.2.1 dX0_appendHole_91 (lv_at hl 7 rfl) ?_
      refine lv_iload X.1 X.2.1 dX0_appendHole_93 (lv_at hl 4 rfl) ?_
      obtain ⟨a28, rfl, k30, hg⟩ := zh_dr hf
      replace hf := hg
      refine ze_iast X hf hW k30 dX0_appendHole_95 (fun I31 H locs hg hV => ?_)
      replace hf := hg
      replace hW := hV
      refine lv_aload_n X.1 X.2.1 dX0_appendHole_96 rfl (lv_at hl 0 rfl) ?_
      refine ze_gtR X 0 10 49 (RX0, TX0, 13) rfl hf hW hK0 rfl (by decide) kfl_X0_49 dX0_appendHole_97 (fun o32 hg => ?_)
      replace hf := hg
      refine lv_iload X.1 X.2.1 dX0_appendHole_100 (lv_at hl 7 rfl) ?_
      refine lv_aload_n X.1 X.2.1 dX0_appendHole_102 rfl (lv_at hl 0 rfl) ?_
      refine ze_gtR X 0 3 25 (RX0, TX0, 13) rfl hf hW hK0 rfl (by decide) kfl_X0_25 dX0_appendHole_103 (fun o33 hg => ?_)
      replace hf := hg
      obtain ⟨a34, rfl, k36, hg⟩ := zh_dr hf
      replace hf := hg
      refine ze_aast (x := o33) X 4 (by decide) hf hW k36 dX0_appendHole_106 (fun R37 H locs hg hV => ?_)
      replace hf := hg
      replace hW := hV
      refine lv_aload_n X.1 X.2.1 dX0_appendHole_107 rfl (lv_at hl 0 rfl) ?_
      refine ze_gtR X 0 11 52 (RX0, TX0, 13) rfl hf hW hK0 rfl (by decide) kfl_X0_52 dX0_appendHole_108 (fun o38 hg => ?_)
      replace hf := hg
      refine lv_iload X.1 X.2.1 dX0_appendHole_111 (lv_at hl 7 rfl) ?_
      refine lv_iload X.1 X.2.1 dX0_appendHole_113 (lv_at hl 5 rfl) ?_
      obtain ⟨a39, rfl, k41, hg⟩ := zh_dr hf
      replace hf := hg
      refine ze_iast X hf hW k41 dX0_appendHole_115 (fun I42 H locs hg hV => ?_)
      replace hf := hg
      replace hW := hV
      refine lv_aload_n X.1 X.2.1 dX0_appendHole_116 rfl (lv_at hl 0 rfl) ?_
      refine ze_gtR X 0 12 55 (RX0, TX0, 13) rfl hf hW hK0 rfl (by decide) kfl_X0_55 dX0_appendHole_117 (fun o43 hg => ?_)
      replace hf := hg
      refine lv_iload X.1 X.2.1 dX0_appendHole_120 (lv_at hl 7 rfl) ?_
      refine lv_iload X.1 X.2.1 dX0_appendHole_122 (lv_at hl 6 rfl) ?_
      obtain ⟨a44, rfl, k46, hg⟩ := zh_dr hf
      replace hf := hg
      refine ze_iast X hf hW k46 dX0_appendHole_124 (fun I47 H locs hg hV => ?_)
      replace hf := hg
      replace hW := hV
      refine lv_aload_n X.1 X.2.1 dX0_appendHole_125 rfl (lv_at hl 0 rfl) ?_
      refine lv_dup X.1 X.2.1 dX0_appendHole_126 rfl ?_
      refine ze_getI X 0 5 31 (RX0, TX0, 13) rfl hW hK0 rfl (by decide) kfl_X0_31 dX0_appendHole_127 ?_
      refine lv_iconst (v := 1) X.1 X.2.1 dX0_appendHole_130 (by decide) ?_
      refine lv_iadd X.1 X.2.1 dX0_appendHole_131 ?_
      refine ze_putI X 0 5 31 (RX0, TX0, 13) rfl hf hW hK0 rfl (by decide) kfl_X0_31 rfl (by decide +kernel) dX0_appendHole_132 (fun I48 H locs hg hV => ?_)
      replace hf := hg
      replace hW := hV
      exact w_X0_appendHole_135 X hr hlk hK0 hf hW (lv_sub hl [0, 1, 2, 7] rfl)
  · replace hf := zif_neg c9 hf
    refine lv_iconst (v := 0) X.1 X.2.1 dX0_appendHole_49 (by decide) ?_
    obtain ⟨rfl, rfl, rfl⟩ := zi3 hf
    exact ze_retZ X hr hlk (by decide) hW (Nat.le_refl _) (Nat.le_refl _) dX0_appendHole_50
set_option maxRecDepth 100000 in
set_option maxHeartbeats 4000000 in
theorem wg_X0_appendHole_3 {F : Nat} {a0 : Nat}  (X : zX p s m c cX0_appendHole 8 RX0 D) (hr : meth.sig.returnType = some .boolean) (hlk : meth.locks = false) (hK0 : (K a0).1 = 10)  {kself : zI → zR → Int32 → Int32 → Int32 → Int32 → Int32 → Int32 → Int32 → Option (Int32 × zI × zR)} (hkself : ∀ (I : zI) (R : zR) (x1 : Int32) (x2 : Int32) (x3 : Int32) (x4 : Int32) (x5 : Int32) (x6 : Int32) (x7 : Int32) (H : Heap) (locs : List Loc) (ls : Array Slot), kself I R x1 x2 x3 x4 x5 x6 x7 = some (r, I', R') → zS (zOwn B K (B + n)) D B n K I R s.heap H locs → lv_has ls 8 [(0, .ref (B + a0)), (1, .int x1), (2, .int x2), (3, .int x3), (4, .int x4), (5, .int x5), (6, .int x6), (7, .int x7)] → W p l e ({ frames := 3, cells := 0, slots := 0, locals := 95 } : Room) s m args below meth c H locs 0 0 (MQ below (zQi D (zOwn B K (B + n)) r B n K I' R') args s 0 0 (zOwn B K (B + n))) (F0 m 3 ls [])) {x1 : Int32} {x2 : Int32} {x3 : Int32} {x4 : Int32} {x5 : Int32} {x6 : Int32} {x7 : Int32} (hf : g_X0_appendHole_3 F K a0  kself I R x1 x2 x3 x4 x5 x6 x7 = some (r, I', R')) (hW : zS (zOwn B K (B + n)) D B n K I R s.heap H locs) (hl : lv_has ls 8 [(0, .ref (B + a0)), (1, .int x1), (2, .int x2), (3, .int x3), (4, .int x4), (5, .int x5), (6, .int x6), (7, .int x7)]) : W p l e ({ frames := 3, cells := 0, slots := 0, locals := 95 } : Room) s m args below meth c H locs 0 0 (MQ below (zQi D (zOwn B K (B + n)) r B n K I' R') args s 0 0 (zOwn B K (B + n))) (F0 m 3 ls []) := by
  unfold g_X0_appendHole_3 at hf
  refine lv_iload X.1 X.2.1 dX0_appendHole_3 (lv_at hl 7 rfl) ?_
  refine lv_aload_n X.1 X.2.1 dX0_appendHole_5 rfl (lv_at hl 0 rfl) ?_
  refine ze_getI X 0 5 31 (RX0, TX0, 13) rfl hW hK0 rfl (by decide) kfl_X0_31 dX0_appendHole_6 ?_
  refine lv_icmp_ge (tgt := 42) X.1 X.2.1 dX0_appendHole_9 (by decide) (fun c49 => ?_) (fun c49 => ?_)
  · replace hf := zif_pos c49 hf
    exact w_X0_appendHole_42 X hr hlk hK0 hf hW hl
  · replace hf := zif_neg c49 hf
    refine lv_iload X.1 X.2.1 dX0_appendHole_12 (lv_at hl 7 rfl) ?_
    refine lv_bipush (v := 10) X.1 X.2.1 dX0_appendHole_14 (by decide) ?_
    refine lv_icmp_ge (tgt := 42) X.1 X.2.1 dX0_appendHole_16 (by decide) (fun c50 => ?_) (fun c50 => ?_)
    · replace hf := zif_pos c50 hf
      exact w_X0_appendHole_42 X hr hlk hK0 hf hW hl
    · replace hf := zif_neg c50 hf
      refine lv_aload_n X.1 X.2.1 dX0_appendHole_19 rfl (lv_at hl 0 rfl) ?_
      refine lv_iload X.1 X.2.1 dX0_appendHole_20 (lv_at hl 7 rfl) ?_
      refine lv_iload_n X.1 X.2.1 dX0_appendHole_22 rfl (lv_at hl 1 rfl) ?_
      refine lv_iload_n X.1 X.2.1 dX0_appendHole_23 rfl (lv_at hl 3 rfl) ?_
      refine lv_iload X.1 X.2.1 dX0_appendHole_24 (lv_at hl 4 rfl) ?_
      refine lv_iload X.1 X.2.1 dX0_appendHole_26 (lv_at hl 5 rfl) ?_
      refine lv_iload X.1 X.2.1 dX0_appendHole_28 (lv_at hl 6 rfl) ?_
      obtain ⟨v51, h52, hg⟩ := zh_bd hf
      replace hf := hg
      refine ze_aftI0 (ze_runV (As := [.int x7, .int x1, .int x3, .int x4, .int x5, .int x6]) (rest := []) X 0 116 (c_X0_standsFor l D B n hK0 h52) vX0_standsFor kml_X0_116 hW hK0 rfl rfl ⟨by decide, by decide⟩ rfl hl.1 rfl (Nat.le_of_ble_eq_true rfl) ⟨Nat.le_refl _, Nat.le_refl _⟩ dX0_appendHole_30) hW (fun H locs hV => ?_)
      replace hW := hV
      refine lv_if_ne (tgt := 42) X.1 X.2.1 dX0_appendHole_33 (by decide) (fun c53 => ?_) (fun c53 => ?_)
      · replace hf := zif_neg c53 hf
        exact w_X0_appendHole_42 X hr hlk hK0 hf hW hl
      · replace hf := zif_pos c53 hf
        refine ze_iinc (lv' := [(7, .int (x7 + (1 : Int32))), (0, .ref (B + a0)), (1, .int x1), (2, .int x2), (3, .int x3), (4, .int x4), (5, .int x5), (6, .int x6)]) (d := 1) X.1 X.2.1 dX0_appendHole_36 hl (k := 7) rfl (by decide) (by decide) rfl (fun ls hk => ?_)
        replace hl := hk
        refine lv_goto (tgt := 3) X.1 X.2.1 dX0_appendHole_39 (by decide) ?_
        exact hkself _ _ _ _ _ _ _ _ _ _ _ _ hf hW (lv_sub hl [1, 2, 3, 4, 5, 6, 7, 0] rfl)
set_option maxRecDepth 100000 in
set_option maxHeartbeats 4000000 in
theorem w_X0_appendHole_3 {F : Nat} {a0 : Nat}  (X : zX p s m c cX0_appendHole 8 RX0 D) (hr : meth.sig.returnType = some .boolean) (hlk : meth.locks = false) (hK0 : (K a0).1 = 10)  {t : Nat} {x1 : Int32} {x2 : Int32} {x3 : Int32} {x4 : Int32} {x5 : Int32} {x6 : Int32} {x7 : Int32} (hf : f_X0_appendHole_3 F K a0  t I R x1 x2 x3 x4 x5 x6 x7 = some (r, I', R')) (hW : zS (zOwn B K (B + n)) D B n K I R s.heap H locs) (hl : lv_has ls 8 [(0, .ref (B + a0)), (1, .int x1), (2, .int x2), (3, .int x3), (4, .int x4), (5, .int x5), (6, .int x6), (7, .int x7)]) : W p l e ({ frames := 3, cells := 0, slots := 0, locals := 95 } : Room) s m args below meth c H locs 0 0 (MQ below (zQi D (zOwn B K (B + n)) r B n K I' R') args s 0 0 (zOwn B K (B + n))) (F0 m 3 ls []) := by
  have key : ∀ t : Nat, ∀ (I : zI) (R : zR) (x1 : Int32) (x2 : Int32) (x3 : Int32) (x4 : Int32) (x5 : Int32) (x6 : Int32) (x7 : Int32) (H : Heap) (locs : List Loc) (ls : Array Slot), f_X0_appendHole_3 F K a0  t I R x1 x2 x3 x4 x5 x6 x7 = some (r, I', R') → zS (zOwn B K (B + n)) D B n K I R s.heap H locs → lv_has ls 8 [(0, .ref (B + a0)), (1, .int x1), (2, .int x2), (3, .int x3), (4, .int x4), (5, .int x5), (6, .int x6), (7, .int x7)] → W p l e ({ frames := 3, cells := 0, slots := 0, locals := 95 } : Room) s m args below meth c H locs 0 0 (MQ below (zQi D (zOwn B K (B + n)) r B n K I' R') args s 0 0 (zOwn B K (B + n))) (F0 m 3 ls []) := by
    intro t
    induction t with
    | zero =>
      intro I R x1 x2 x3 x4 x5 x6 x7 H locs ls hf hW hl
      cases hf
    | succ t ih =>
      intro I R x1 x2 x3 x4 x5 x6 x7 H locs ls hf hW hl
      exact wg_X0_appendHole_3 X hr hlk hK0  ih hf hW hl
  exact key t _ _ _ _ _ _ _ _ _ _ _ _ hf hW hl
set_option maxRecDepth 100000 in
set_option maxHeartbeats 4000000 in
theorem c_X0_appendHole (l : Launch) (D : zD) (B n : Nat) {F : Nat} {K : zK} {I : zI} {R : zR} {a0 : Nat} {x1 : Int32} {x2 : Int32} {x3 : Int32} {x4 : Int32} {x5 : Int32} {x6 : Int32} {r : Int32} {I' : zI} {R' : zR} (hK0 : (K a0).1 = 10) (hf : f_X0_appendHole F K I R a0 x1 x2 x3 x4 x5 x6 = some (r, I', R')) : zM l yX0_appendHole cX0_appendHole 8 (some .boolean) ({ frames := 3, cells := 0, slots := 0, locals := 95 } : Room) D B n K I R [.ref (B + a0), .int x1, .int x2, .int x3, .int x4, .int x5, .int x6] (zQi D (zOwn B K (B + n)) r B n K I' R') := by
  refine ze_entry (lv0 := [(0, .ref (B + a0)), (1, .int x1), (2, .int x2), (3, .int x3), (4, .int x4), (5, .int x5), (6, .int x6)]) (by decide) (by simp [lg_sl, zcat, zcat_i, zcat_r, zcat_l]) (by simp [lv_args, zcat, zcat_i, zcat_r, zcat_l]) (fun p e s m below meth c X hr hlk hin hW ls hl => ?_)
  unfold f_X0_appendHole at hf
  refine lv_iconst (v := 0) X.1 X.2.1 dX0_appendHole_0 (by decide) ?_
  refine lv_istore (lv' := [(7, .int (0 : Int32)), (0, .ref (B + a0)), (1, .int x1), (2, .int x2), (3, .int x3), (4, .int x4), (5, .int x5), (6, .int x6)]) X.1 X.2.1 dX0_appendHole_1 hl (by decide) rfl (fun ls hk => ?_)
  replace hl := hk
  exact w_X0_appendHole_3 X hr hlk hK0 hf hW (lv_sub hl [1, 2, 3, 4, 5, 6, 7, 0] rfl)
end

/-! LeastPatterns$Joiner.sameSymbol(II)Z -/
def f_X0_sameSymbol (F : Nat) (K : zK) (I : zI) (R : zR) (a0 : Nat) (x1 : Int32) (x2 : Int32) : Option (Int32) :=
  zbd (some (R a0 2)) fun o1 =>
  zbd (zdr K o1 15) fun a2 =>
  zbd (f_X5_sortOf F K I R a2 x1) fun v5 =>
  if v5 = (0 : Int32) then
    zbd (some (R a0 2)) fun o8 =>
    zbd (zdr K o8 15) fun a9 =>
    zbd (f_X5_headOf F K I R a9 x1) fun v12 =>
    zbd (some (R a0 3)) fun o14 =>
    zbd (zdr K o14 15) fun a15 =>
    zbd (f_X5_headOf F K I R a15 x2) fun v18 =>
    if v12 = v18 then
      some (1 : Int32)
    else
      some (0 : Int32)
  else
    some (0 : Int32)
section
variable {p : Program} {l : Launch} {e : Env} {s : State} {m : MethodId} {args : Array Value} {below : List Frame} {meth : Method} {c : Code} {D : zD} {B n n0 n' fd ld : Nat} {K K0 K' : zK} {I I' : zI} {R R' : zR} {H : Heap} {locs : List Loc} {ls : Array Slot} {r : Int32}
set_option maxRecDepth 100000 in
set_option maxHeartbeats 4000000 in
theorem c_X0_sameSymbol (l : Launch) (D : zD) (B n : Nat) {F : Nat} {K : zK} {I : zI} {R : zR} {a0 : Nat} {x1 : Int32} {x2 : Int32} {r : Int32} (hK0 : (K a0).1 = 10) (hf : f_X0_sameSymbol F K I R a0 x1 x2 = some r) : zM l yX0_sameSymbol cX0_sameSymbol 3 (some .boolean) ({ frames := 2, cells := 0, slots := 0, locals := 61 } : Room) D B n K I R [.ref (B + a0), .int x1, .int x2] (zQi D (zOwn B K (B + n)) r B n K I R) := by
  refine ze_entry (lv0 := [(0, .ref (B + a0)), (1, .int x1), (2, .int x2)]) (by decide) (by simp [lg_sl, zcat, zcat_i, zcat_r, zcat_l]) (by simp [lv_args, zcat, zcat_i, zcat_r, zcat_l]) (fun p e s m below meth c X hr hlk hin hW ls hl => ?_)
  unfold f_X0_sameSymbol at hf
  refine lv_aload_n X.1 X.2.1 dX0_sameSymbol_0 rfl (lv_at hl 0 rfl) ?_
  refine ze_gtR X 0 2 21 (RX0, TX0, 13) rfl hf hW hK0 rfl (by decide) kfl_X0_21 dX0_sameSymbol_1 (fun o1 hg => ?_)
  replace hf := hg
  refine lv_iload_n X.1 X.2.1 dX0_sameSymbol_4 rfl (lv_at hl 1 rfl) ?_
  obtain ⟨a2, rfl, k4, hg⟩ := zh_dr hf
  replace hf := hg
  obtain ⟨v5, h6, hg⟩ := zh_bd hf
  replace hf := hg
  refine ze_aftI0 (ze_runV (As := [.int x1]) (rest := []) X 5 75 (c_X5_sortOf l D B n k4 h6) vX5_sortOf kml_X0_75 hW k4 rfl rfl ⟨by decide, by decide⟩ rfl hl.1 rfl (Nat.le_of_ble_eq_true rfl) ⟨Nat.le_refl _, Nat.le_refl _⟩ dX0_sameSymbol_5) hW (fun H locs hV => ?_)
  replace hW := hV
  refine lv_if_ne (tgt := 34) X.1 X.2.1 dX0_sameSymbol_8 (by decide) (fun c7 => ?_) (fun c7 => ?_)
  · replace hf := zif_neg c7 hf
    refine lv_iconst (v := 0) X.1 X.2.1 dX0_sameSymbol_34 (by decide) ?_
    obtain rfl := zi1 hf
    exact ze_retZ X hr hlk (by decide) hW (Nat.le_refl _) (Nat.le_refl _) dX0_sameSymbol_35
  · replace hf := zif_pos c7 hf
    refine lv_aload_n X.1 X.2.1 dX0_sameSymbol_11 rfl (lv_at hl 0 rfl) ?_
    refine ze_gtR X 0 2 21 (RX0, TX0, 13) rfl hf hW hK0 rfl (by decide) kfl_X0_21 dX0_sameSymbol_12 (fun o8 hg => ?_)
    replace hf := hg
    refine lv_iload_n X.1 X.2.1 dX0_sameSymbol_15 rfl (lv_at hl 1 rfl) ?_
    obtain ⟨a9, rfl, k11, hg⟩ := zh_dr hf
    replace hf := hg
    obtain ⟨v12, h13, hg⟩ := zh_bd hf
    replace hf := hg
    refine ze_aftI0 (ze_runV (As := [.int x1]) (rest := []) X 5 84 (c_X5_headOf l D B n k11 h13) vX5_headOf kml_X0_84 hW k11 rfl rfl ⟨by decide, by decide⟩ rfl hl.1 rfl (Nat.le_of_ble_eq_true rfl) ⟨Nat.le_refl _, Nat.le_refl _⟩ dX0_sameSymbol_16) hW (fun H locs hV => ?_)
    replace hW := hV
    refine lv_aload_n X.1 X.2.1 dX0_sameSymbol_19 rfl (lv_at hl 0 rfl) ?_
    refine ze_gtR X 0 3 25 (RX0, TX0, 13) rfl hf hW hK0 rfl (by decide) kfl_X0_25 dX0_sameSymbol_20 (fun o14 hg => ?_)
    replace hf := hg
    refine lv_iload_n X.1 X.2.1 dX0_sameSymbol_23 rfl (lv_at hl 2 rfl) ?_
    obtain ⟨a15, rfl, k17, hg⟩ := zh_dr hf
    replace hf := hg
    obtain ⟨v18, h19, hg⟩ := zh_bd hf
    replace hf := hg
    refine ze_aftI0 (ze_runV (As := [.int x2]) (rest := [.int v12]) X 5 84 (c_X5_headOf l D B n k17 h19) vX5_headOf kml_X0_84 hW k17 rfl rfl ⟨by decide, by decide⟩ rfl hl.1 rfl (Nat.le_of_ble_eq_true rfl) ⟨Nat.le_refl _, Nat.le_refl _⟩ dX0_sameSymbol_24) hW (fun H locs hV => ?_)
    replace hW := hV
    refine lv_icmp_ne (tgt := 34) X.1 X.2.1 dX0_sameSymbol_27 (by decide) (fun c20 => ?_) (fun c20 => ?_)
    · replace hf := zif_neg c20 hf
      refine lv_iconst (v := 0) X.1 X.2.1 dX0_sameSymbol_34 (by decide) ?_
      obtain rfl := zi1 hf
      exact ze_retZ X hr hlk (by decide) hW (Nat.le_refl _) (Nat.le_refl _) dX0_sameSymbol_35
    · replace hf := zif_pos c20 hf
      refine lv_iconst (v := 1) X.1 X.2.1 dX0_sameSymbol_30 (by decide) ?_
      refine lv_goto (tgt := 35) X.1 X.2.1 dX0_sameSymbol_31 (by decide) ?_
      obtain rfl := zi1 hf
      exact ze_retZ X hr hlk (by decide) hW (Nat.le_refl _) (Nat.le_refl _) dX0_sameSymbol_35
end

/-! LeastPatterns$Term.argument(II)I -/
def g_X5_argument_7 (F : Nat) (K : zK) (I : zI) (R : zR) (a0 : Nat)  (kself : Int32 → Int32 → Int32 → Option (Int32)) (x2 : Int32) (x3 : Int32) (x4 : Int32) : Option (Int32) :=
  if x2 ≤ x4 then
    some x3
  else
    zbd (f_X5_spanOf F K I R a0 x3) fun v2 =>
    zbd (some (x3 + v2)) fun v4 =>
    kself x2 v4 (x4 + (1 : Int32))
def f_X5_argument_7 (F : Nat) (K : zK) (I : zI) (R : zR) (a0 : Nat)  : Nat → Int32 → Int32 → Int32 → Option (Int32)
  | 0, _, _, _ => none
  | t + 1, x2, x3, x4 => g_X5_argument_7 F K I R a0  (f_X5_argument_7 F K I R a0  t) x2 x3 x4
def f_X5_argument (F : Nat) (K : zK) (I : zI) (R : zR) (a0 : Nat) (x1 : Int32) (x2 : Int32) : Option (Int32) :=
  zbd (some (x1 + (1 : Int32))) fun v5 =>
  f_X5_argument_7 F K I R a0 F x2 v5 (0 : Int32)
section
variable {p : Program} {l : Launch} {e : Env} {s : State} {m : MethodId} {args : Array Value} {below : List Frame} {meth : Method} {c : Code} {D : zD} {B n n0 n' fd ld : Nat} {K K0 K' : zK} {I I' : zI} {R R' : zR} {H : Heap} {locs : List Loc} {ls : Array Slot} {r : Int32}
set_option maxRecDepth 100000 in
set_option maxHeartbeats 4000000 in
theorem wg_X5_argument_7 {F : Nat} {a0 : Nat}  (X : zX p s m c cX5_argument 5 RX5 D) (hr : meth.sig.returnType = some .int) (hlk : meth.locks = false) (hK0 : (K a0).1 = 15)  {kself : Int32 → Int32 → Int32 → Option (Int32)} (hkself : ∀ (x2 : Int32) (x3 : Int32) (x4 : Int32) (H : Heap) (locs : List Loc) (ls : Array Slot), kself x2 x3 x4 = some r → zS (zOwn B K (B + n)) D B n K I R s.heap H locs → lv_has ls 5 [(0, .ref (B + a0)), (2, .int x2), (3, .int x3), (4, .int x4)] → W p l e ({ frames := 2, cells := 0, slots := 0, locals := 61 } : Room) s m args below meth c H locs 0 0 (MQ below (zQi D (zOwn B K (B + n)) r B n K I R) args s 0 0 (zOwn B K (B + n))) (F0 m 7 ls [])) {x2 : Int32} {x3 : Int32} {x4 : Int32} (hf : g_X5_argument_7 F K I R a0  kself x2 x3 x4 = some r) (hW : zS (zOwn B K (B + n)) D B n K I R s.heap H locs) (hl : lv_has ls 5 [(0, .ref (B + a0)), (2, .int x2), (3, .int x3), (4, .int x4)]) : W p l e ({ frames := 2, cells := 0, slots := 0, locals := 61 } : Room) s m args below meth c H locs 0 0 (MQ below (zQi D (zOwn B K (B + n)) r B n K I R) args s 0 0 (zOwn B K (B + n))) (F0 m 7 ls []) := by
  unfold g_X5_argument_7 at hf
  refine lv_iload X.1 X.2.1 dX5_argument_7 (lv_at hl 3 rfl) ?_
  refine lv_iload_n X.1 X.2.1 dX5_argument_9 rfl (lv_at hl 1 rfl) ?_
  refine lv_icmp_ge (tgt := 27) X.1 X.2.1 dX5_argument_10 (by decide) (fun c1 => ?_) (fun c1 => ?_)
  · replace hf := zif_pos c1 hf
    refine lv_iload_n X.1 X.2.1 dX5_argument_27 rfl (lv_at hl 2 rfl) ?_
    obtain rfl := zi1 hf
    exact ze_retI X hr hlk hW (Nat.le_refl _) (Nat.le_refl _) dX5_argument_28
  · replace hf := zif_neg c1 hf
    refine lv_iload_n X.1 X.2.1 dX5_argument_13 rfl (lv_at hl 2 rfl) ?_
    refine lv_aload_n X.1 X.2.1 dX5_argument_14 rfl (lv_at hl 0 rfl) ?_
    refine lv_iload_n X.1 X.2.1 dX5_argument_15 rfl (lv_at hl 2 rfl) ?_
    obtain ⟨v2, h3, hg⟩ := zh_bd hf
    replace hf := hg
    refine ze_aftI0 (ze_runV (As := [.int x3]) (rest := [.int x3]) X 5 39 (c_X5_spanOf l D B n hK0 h3) vX5_spanOf kml_X5_39 hW hK0 rfl rfl ⟨by decide, by decide⟩ rfl hl.1 rfl (Nat.le_of_ble_eq_true rfl) ⟨Nat.le_refl _, Nat.le_refl _⟩ dX5_argument_16) hW (fun H locs hV => ?_)
    replace hW := hV
    refine lv_iadd X.1 X.2.1 dX5_argument_19 ?_
    refine ze_nm hf (fun v4 hg => ?_)
    replace hf := hg
    refine lv_istore_n (i := 3) (lv' := [(3, .int v4), (0, .ref (B + a0)), (2, .int x2), (4, .int x4)]) X.1 X.2.1 dX5_argument_20 rfl hl (by decide) rfl (fun ls hk => ?_)
    replace hl := hk
    refine ze_iinc (lv' := [(4, .int (x4 + (1 : Int32))), (3, .int v4), (0, .ref (B + a0)), (2, .int x2)]) (d := 1) X.1 X.2.1 dX5_argument_21 hl (k := 3) rfl (by decide) (by decide) rfl (fun ls hk => ?_)
    replace hl := hk
    refine lv_goto (tgt := 7) X.1 X.2.1 dX5_argument_24 (by decide) ?_
    exact hkself _ _ _ _ _ _ hf hW (lv_sub hl [2, 3, 1, 0] rfl)
set_option maxRecDepth 100000 in
set_option maxHeartbeats 4000000 in
theorem w_X5_argument_7 {F : Nat} {a0 : Nat}  (X : zX p s m c cX5_argument 5 RX5 D) (hr : meth.sig.returnType = some .int) (hlk : meth.locks = false) (hK0 : (K a0).1 = 15)  {t : Nat} {x2 : Int32} {x3 : Int32} {x4 : Int32} (hf : f_X5_argument_7 F K I R a0  t x2 x3 x4 = some r) (hW : zS (zOwn B K (B + n)) D B n K I R s.heap H locs) (hl : lv_has ls 5 [(0, .ref (B + a0)), (2, .int x2), (3, .int x3), (4, .int x4)]) : W p l e ({ frames := 2, cells := 0, slots := 0, locals := 61 } : Room) s m args below meth c H locs 0 0 (MQ below (zQi D (zOwn B K (B + n)) r B n K I R) args s 0 0 (zOwn B K (B + n))) (F0 m 7 ls []) := by
  have key : ∀ t : Nat, ∀ (x2 : Int32) (x3 : Int32) (x4 : Int32) (H : Heap) (locs : List Loc) (ls : Array Slot), f_X5_argument_7 F K I R a0  t x2 x3 x4 = some r → zS (zOwn B K (B + n)) D B n K I R s.heap H locs → lv_has ls 5 [(0, .ref (B + a0)), (2, .int x2), (3, .int x3), (4, .int x4)] → W p l e ({ frames := 2, cells := 0, slots := 0, locals := 61 } : Room) s m args below meth c H locs 0 0 (MQ below (zQi D (zOwn B K (B + n)) r B n K I R) args s 0 0 (zOwn B K (B + n))) (F0 m 7 ls []) := by
    intro t
    induction t with
    | zero =>
      intro x2 x3 x4 H locs ls hf hW hl
      cases hf
    | succ t ih =>
      intro x2 x3 x4 H locs ls hf hW hl
      exact wg_X5_argument_7 X hr hlk hK0  ih hf hW hl
  exact key t _ _ _ _ _ _ hf hW hl
set_option maxRecDepth 100000 in
set_option maxHeartbeats 4000000 in
theorem c_X5_argument (l : Launch) (D : zD) (B n : Nat) {F : Nat} {K : zK} {I : zI} {R : zR} {a0 : Nat} {x1 : Int32} {x2 : Int32} {r : Int32} (hK0 : (K a0).1 = 15) (hf : f_X5_argument F K I R a0 x1 x2 = some r) : zM l yX5_argument cX5_argument 5 (some .int) ({ frames := 2, cells := 0, slots := 0, locals := 61 } : Room) D B n K I R [.ref (B + a0), .int x1, .int x2] (zQi D (zOwn B K (B + n)) r B n K I R) := by
  refine ze_entry (lv0 := [(0, .ref (B + a0)), (1, .int x1), (2, .int x2)]) (by decide) (by simp [lg_sl, zcat, zcat_i, zcat_r, zcat_l]) (by simp [lv_args, zcat, zcat_i, zcat_r, zcat_l]) (fun p e s m below meth c X hr hlk hin hW ls hl => ?_)
  unfold f_X5_argument at hf
  refine lv_iload_n X.1 X.2.1 dX5_argument_0 rfl (lv_at hl 1 rfl) ?_
  refine lv_iconst (v := 1) X.1 X.2.1 dX5_argument_1 (by decide) ?_
  refine lv_iadd X.1 X.2.1 dX5_argument_2 ?_
  refine ze_nm hf (fun v5 hg => ?_)
  replace hf := hg
  refine lv_istore_n (i := 3) (lv' := [(3, .int v5), (0, .ref (B + a0)), (1, .int x1), (2, .int x2)]) X.1 X.2.1 dX5_argument_3 rfl hl (by decide) rfl (fun ls hk => ?_)
  replace hl := hk
  refine lv_iconst (v := 0) X.1 X.2.1 dX5_argument_4 (by decide) ?_
  refine lv_istore (lv' := [(4, .int (0 : Int32)), (3, .int v5), (0, .ref (B + a0)), (1, .int x1), (2, .int x2)]) X.1 X.2.1 dX5_argument_5 hl (by decide) rfl (fun ls hk => ?_)
  replace hl := hk
  exact w_X5_argument_7 X hr hlk hK0 hf hW (lv_sub hl [2, 4, 1, 0] rfl)
end

/-! LeastPatterns$Joiner.joinRow(IIII)Z -/
def g_X0_joinRow_9 (F : Nat) (K : zK) (rec : zI → zR → Nat → Int32 → Int32 → Int32 → Option (Int32 × zI × zR)) (a0 : Nat)  (kself : zI → zR → Int32 → Int32 → Int32 → Int32 → Int32 → Option (Int32 × zI × zR)) (I : zI) (R : zR) (x3 : Int32) (x4 : Int32) (x5 : Int32) (x6 : Int32) (x7 : Int32) : Option (Int32 × zI × zR) :=
  if x3 ≤ x7 then
    some ((1 : Int32), I, R)
  else
    zbd3 (rec I R a0 x5 x6 x4) fun v2 I3 R4 =>
    if v2 = (0 : Int32) then
      some ((0 : Int32), I3, R4)
    else
      zbd (some (R4 a0 2)) fun o7 =>
      zbd (zdr K o7 15) fun a8 =>
      zbd (f_X5_spanOf F K I3 R4 a8 x5) fun v11 =>
      zbd (some (x5 + v11)) fun v13 =>
      zbd (some (R4 a0 3)) fun o14 =>
      zbd (zdr K o14 15) fun a15 =>
      zbd (f_X5_spanOf F K I3 R4 a15 x6) fun v18 =>
      zbd (some (x6 + v18)) fun v20 =>
      kself I3 R4 x3 x4 v13 v20 (x7 + (1 : Int32))
def f_X0_joinRow_9 (F : Nat) (K : zK) (rec : zI → zR → Nat → Int32 → Int32 → Int32 → Option (Int32 × zI × zR)) (a0 : Nat)  : Nat → zI → zR → Int32 → Int32 → Int32 → Int32 → Int32 → Option (Int32 × zI × zR)
  | 0, _, _, _, _, _, _, _ => none
  | t + 1, I, R, x3, x4, x5, x6, x7 => g_X0_joinRow_9 F K rec a0  (f_X0_joinRow_9 F K rec a0  t) I R x3 x4 x5 x6 x7
def f_X0_joinRow (F : Nat) (K : zK) (rec : zI → zR → Nat → Int32 → Int32 → Int32 → Option (Int32 × zI × zR)) (I : zI) (R : zR) (a0 : Nat) (x1 : Int32) (x2 : Int32) (x3 : Int32) (x4 : Int32) : Option (Int32 × zI × zR) :=
  f_X0_joinRow_9 F K rec a0 F I R x3 x4 x1 x2 (0 : Int32)
section
variable {p : Program} {l : Launch} {e : Env} {s : State} {m : MethodId} {args : Array Value} {below : List Frame} {meth : Method} {c : Code} {D : zD} {B n n0 n' fd ld : Nat} {K K0 K' : zK} {I I' : zI} {R R' : zR} {H : Heap} {locs : List Loc} {ls : Array Slot} {r : Int32}
set_option maxRecDepth 100000 in
set_option maxHeartbeats 4000000 in
theorem wg_X0_joinRow_9 {F : Nat} {rec : zI → zR → Nat → Int32 → Int32 → Int32 → Option (Int32 × zI × zR)} {a0 : Nat}  (X : zX p s m c cX0_joinRow 8 RX0 D) (hr : meth.sig.returnType = some .boolean) (hlk : meth.locks = false) (hrec : ∀ {I : zI} {R : zR} {b : Nat} {q1 q2 q3 : Int32} {r : Int32} {I' : zI} {R' : zR}, (K b).1 = 10 → rec I R b q1 q2 q3 = some (r, I', R') → zM l yX0_joinNodes cX0_joinNodes 8 (some .boolean) ({ frames := fd, cells := 0, slots := 0, locals := ld } : Room) D B n K I R [.ref (B + b), .int q1, .int q2, .int q3] (zQi D (zOwn B K (B + n)) r B n K I' R')) (hK0 : (K a0).1 = 10)  {kself : zI → zR → Int32 → Int32 → Int32 → Int32 → Int32 → Option (Int32 × zI × zR)} (hkself : ∀ (I : zI) (R : zR) (x3 : Int32) (x4 : Int32) (x5 : Int32) (x6 : Int32) (x7 : Int32) (H : Heap) (locs : List Loc) (ls : Array Slot), kself I R x3 x4 x5 x6 x7 = some (r, I', R') → zS (zOwn B K (B + n)) D B n K I R s.heap H locs → lv_has ls 8 [(0, .ref (B + a0)), (3, .int x3), (4, .int x4), (5, .int x5), (6, .int x6), (7, .int x7)] → W p l e ({ frames := fd + 3, cells := 0, slots := 0, locals := ld + 100 } : Room) s m args below meth c H locs 0 0 (MQ below (zQi D (zOwn B K (B + n)) r B n K I' R') args s 0 0 (zOwn B K (B + n))) (F0 m 9 ls [])) {x3 : Int32} {x4 : Int32} {x5 : Int32} {x6 : Int32} {x7 : Int32} (hf : g_X0_joinRow_9 F K rec a0  kself I R x3 x4 x5 x6 x7 = some (r, I', R')) (hW : zS (zOwn B K (B + n)) D B n K I R s.heap H locs) (hl : lv_has ls 8 [(0, .ref (B + a0)), (3, .int x3), (4, .int x4), (5, .int x5), (6, .int x6), (7, .int x7)]) : W p l e ({ frames := fd + 3, cells := 0, slots := 0, locals := ld + 100 } : Room) s m args below meth c H locs 0 0 (MQ below (zQi D (zOwn B K (B + n)) r B n K I' R') args s 0 0 (zOwn B K (B + n))) (F0 m 9 ls []) := by
  unfold g_X0_joinRow_9 at hf
  refine lv_iload X.1 X.2.1 dX0_joinRow_9 (lv_at hl 5 rfl) ?_
  refine lv_iload_n X.1 X.2.1 dX0_joinRow_11 rfl (lv_at hl 1 rfl) ?_
  refine lv_icmp_ge (tgt := 64) X.1 X.2.1 dX0_joinRow_12 (by decide) (fun c1 => ?_) (fun c1 => ?_)
  · replace hf := zif_pos c1 hf
    refine lv_iconst (v := 1) X.1 X.2.1 dX0_joinRow_64 (by decide) ?_
    obtain ⟨rfl, rfl, rfl⟩ := zi3 hf
    exact ze_retZ X hr hlk (by decide) hW (Nat.le_refl _) (Nat.le_refl _) dX0_joinRow_65
  · replace hf := zif_neg c1 hf
    refine lv_aload_n X.1 X.2.1 dX0_joinRow_15 rfl (lv_at hl 0 rfl) ?_
    refine lv_iload X.1 X.2.1 dX0_joinRow_16 (lv_at hl 3 rfl) ?_
    refine lv_iload X.1 X.2.1 dX0_joinRow_18 (lv_at hl 4 rfl) ?_
    refine lv_iload X.1 X.2.1 dX0_joinRow_20 (lv_at hl 2 rfl) ?_
    obtain ⟨v2, I3, R4, h5, hg⟩ := zh_bd3 hf
    replace hf := hg
    refine ze_aftI0 (ze_runV (As := [.int x5, .int x6, .int x4]) (rest := []) X 0 64 (hrec hK0 h5) vX0_joinNodes kml_X0_64 hW hK0 rfl rfl ⟨by (try dsimp only) <;> omega, by (try dsimp only) <;> omega⟩ rfl hl.1 rfl (Nat.le_of_ble_eq_true rfl) ⟨Nat.le_refl _, Nat.le_refl _⟩ dX0_joinRow_22) hW (fun H locs hV => ?_)
    replace hW := hV
    refine lv_if_ne (tgt := 30) X.1 X.2.1 dX0_joinRow_25 (by decide) (fun c6 => ?_) (fun c6 => ?_)
    · replace hf := zif_neg c6 hf
      refine lv_iload X.1 X.2.1 dX0_joinRow_30 (lv_at hl 3 rfl) ?_
      refine lv_aload_n X.1 X.2.1 dX0_joinRow_32 rfl (lv_at hl 0 rfl) ?_
      refine ze_gtR X 0 2 21 (RX0, TX0, 13) rfl hf hW hK0 rfl (by decide) kfl_X0_21 dX0_joinRow_33 (fun o7 hg => ?_)
      replace hf := hg
      refine lv_iload X.1 X.2.1 dX0_joinRow_36 (lv_at hl 3 rfl) ?_
      obtain ⟨a8, rfl, k10, hg⟩ := zh_dr hf
      replace hf := hg
      obtain ⟨v11, h12, hg⟩ := zh_bd hf
      replace hf := hg
      refine ze_aftI0 (ze_runV (As := [.int x5]) (rest := [.int x5]) X 5 101 (c_X5_spanOf l D B n k10 h12) vX5_spanOf kml_X0_101 hW k10 rfl rfl ⟨by (try dsimp only) <;> omega, by (try dsimp only) <;> omega⟩ rfl hl.1 rfl (Nat.le_of_ble_eq_true rfl) ⟨Nat.le_refl _, Nat.le_refl _⟩ dX0_joinRow_38) hW (fun H locs hV => ?_)
      replace hW := hV
      refine lv_iadd X.1 X.2.1 dX0_joinRow_41 ?_
      refine ze_nm hf (fun v13 hg => ?_)
      replace hf := hg
      refine lv_istore (lv' := [(5, .int v13), (0, .ref (B + a0)), (3, .int x3), (4, .int x4), (6, .int x6), (7, .int x7)]) X.1 X.2.1 dX0_joinRow_42 hl (by decide) rfl (fun ls hk => ?_)
      replace hl := hk
      refine lv_iload X.1 X.2.1 dX0_joinRow_44 (lv_at hl 4 rfl) ?_
      refine lv_aload_n X.1 X.2.1 dX0_joinRow_46 rfl (lv_at hl 1 rfl) ?_
      refine ze_gtR X 0 3 25 (RX0, TX0, 13) rfl hf hW hK0 rfl (by decide) kfl_X0_25 dX0_joinRow_47 (fun o14 hg => ?_)
      replace hf := hg
      refine lv_iload X.1 X.2.1 dX0_joinRow_50 (lv_at hl 4 rfl) ?_
      obtain ⟨a15, rfl, k17, hg⟩ := zh_dr hf
      replace hf := hg
      obtain ⟨v18, h19, hg⟩ := zh_bd hf
      replace hf := hg
      refine ze_aftI0 (ze_runV (As := [.int x6]) (rest := [.int x6]) X 5 101 (c_X5_spanOf l D B n k17 h19) vX5_spanOf kml_X0_101 hW k17 rfl rfl ⟨by (try dsimp only) <;> omega, by (try dsimp only) <;> omega⟩ rfl hl.1 rfl (Nat.le_of_ble_eq_true rfl) ⟨Nat.le_refl _, Nat.le_refl _⟩ dX0_joinRow_52) hW (fun H locs hV => ?_)
      replace hW := hV
      refine lv_iadd X.1 X.2.1 dX0_joinRow_55 ?_
      refine ze_nm hf (fun v20 hg => ?_)
      replace hf := hg
      refine lv_istore (lv' := [(6, .int v20), (5, .int v13), (0, .ref (B + a0)), (3, .int x3), (4, .int x4), (7, .int x7)]) X.1 X.2.1 dX0_joinRow_56 hl (by decide) rfl (fun ls hk => ?_)
      replace hl := hk
      refine ze_iinc (lv' := [(7, .int (x7 + (1 : Int32))), (6, .int v20), (5, .int v13), (0, .ref (B + a0)), (3, .int x3), (4, .int x4)]) (d := 1) X.1 X.2.1 dX0_joinRow_58 hl (k := 5) rfl (by decide) (by decide) rfl (fun ls hk => ?_)
      replace hl := hk
      refine lv_goto (tgt := 9) X.1 X.2.1 dX0_joinRow_61 (by decide) ?_
      exact hkself _ _ _ _ _ _ _ _ _ _ hf hW (lv_sub hl [3, 4, 5, 2, 1, 0] rfl)
    · replace hf := zif_pos c6 hf
      refine lv_iconst (v := 0) X.1 X.2.1 dX0_joinRow_28 (by decide) ?_
      obtain ⟨rfl, rfl, rfl⟩ := zi3 hf
      exact ze_retZ X hr hlk (by decide) hW (Nat.le_refl _) (Nat.le_refl _) dX0_joinRow_29
set_option maxRecDepth 100000 in
set_option maxHeartbeats 4000000 in
theorem w_X0_joinRow_9 {F : Nat} {rec : zI → zR → Nat → Int32 → Int32 → Int32 → Option (Int32 × zI × zR)} {a0 : Nat}  (X : zX p s m c cX0_joinRow 8 RX0 D) (hr : meth.sig.returnType = some .boolean) (hlk : meth.locks = false) (hrec : ∀ {I : zI} {R : zR} {b : Nat} {q1 q2 q3 : Int32} {r : Int32} {I' : zI} {R' : zR}, (K b).1 = 10 → rec I R b q1 q2 q3 = some (r, I', R') → zM l yX0_joinNodes cX0_joinNodes 8 (some .boolean) ({ frames := fd, cells := 0, slots := 0, locals := ld } : Room) D B n K I R [.ref (B + b), .int q1, .int q2, .int q3] (zQi D (zOwn B K (B + n)) r B n K I' R')) (hK0 : (K a0).1 = 10)  {t : Nat} {x3 : Int32} {x4 : Int32} {x5 : Int32} {x6 : Int32} {x7 : Int32} (hf : f_X0_joinRow_9 F K rec a0  t I R x3 x4 x5 x6 x7 = some (r, I', R')) (hW : zS (zOwn B K (B + n)) D B n K I R s.heap H locs) (hl : lv_has ls 8 [(0, .ref (B + a0)), (3, .int x3), (4, .int x4), (5, .int x5), (6, .int x6), (7, .int x7)]) : W p l e ({ frames := fd + 3, cells := 0, slots := 0, locals := ld + 100 } : Room) s m args below meth c H locs 0 0 (MQ below (zQi D (zOwn B K (B + n)) r B n K I' R') args s 0 0 (zOwn B K (B + n))) (F0 m 9 ls []) := by
  have key : ∀ t : Nat, ∀ (I : zI) (R : zR) (x3 : Int32) (x4 : Int32) (x5 : Int32) (x6 : Int32) (x7 : Int32) (H : Heap) (locs : List Loc) (ls : Array Slot), f_X0_joinRow_9 F K rec a0  t I R x3 x4 x5 x6 x7 = some (r, I', R') → zS (zOwn B K (B + n)) D B n K I R s.heap H locs → lv_has ls 8 [(0, .ref (B + a0)), (3, .int x3), (4, .int x4), (5, .int x5), (6, .int x6), (7, .int x7)] → W p l e ({ frames := fd + 3, cells := 0, slots := 0, locals := ld + 100 } : Room) s m args below meth c H locs 0 0 (MQ below (zQi D (zOwn B K (B + n)) r B n K I' R') args s 0 0 (zOwn B K (B + n))) (F0 m 9 ls []) := by
    intro t
    induction t with
    | zero =>
      intro I R x3 x4 x5 x6 x7 H locs ls hf hW hl
      cases hf
    | succ t ih =>
      intro I R x3 x4 x5 x6 x7 H locs ls hf hW hl
      exact wg_X0_joinRow_9 X hr hlk hrec hK0  ih hf hW hl
  exact key t _ _ _ _ _ _ _ _ _ _ hf hW hl
set_option maxRecDepth 100000 in
set_option maxHeartbeats 4000000 in
theorem c_X0_joinRow (l : Launch) (D : zD) (B n : Nat) {fd ld : Nat} {F : Nat} {K : zK} {rec : zI → zR → Nat → Int32 → Int32 → Int32 → Option (Int32 × zI × zR)} {I : zI} {R : zR} {a0 : Nat} {x1 : Int32} {x2 : Int32} {x3 : Int32} {x4 : Int32} {r : Int32} {I' : zI} {R' : zR} (hrec : ∀ {I : zI} {R : zR} {b : Nat} {q1 q2 q3 : Int32} {r : Int32} {I' : zI} {R' : zR}, (K b).1 = 10 → rec I R b q1 q2 q3 = some (r, I', R') → zM l yX0_joinNodes cX0_joinNodes 8 (some .boolean) ({ frames := fd, cells := 0, slots := 0, locals := ld } : Room) D B n K I R [.ref (B + b), .int q1, .int q2, .int q3] (zQi D (zOwn B K (B + n)) r B n K I' R')) (hK0 : (K a0).1 = 10) (hf : f_X0_joinRow F K rec I R a0 x1 x2 x3 x4 = some (r, I', R')) : zM l yX0_joinRow cX0_joinRow 8 (some .boolean) ({ frames := fd + 3, cells := 0, slots := 0, locals := ld + 100 } : Room) D B n K I R [.ref (B + a0), .int x1, .int x2, .int x3, .int x4] (zQi D (zOwn B K (B + n)) r B n K I' R') := by
  refine ze_entry (lv0 := [(0, .ref (B + a0)), (1, .int x1), (2, .int x2), (3, .int x3), (4, .int x4)]) (by decide) (by simp [lg_sl, zcat, zcat_i, zcat_r, zcat_l]) (by simp [lv_args, zcat, zcat_i, zcat_r, zcat_l]) (fun p e s m below meth c X hr hlk hin hW ls hl => ?_)
  unfold f_X0_joinRow at hf
  refine lv_iload_n X.1 X.2.1 dX0_joinRow_0 rfl (lv_at hl 1 rfl) ?_
  refine lv_istore (lv' := [(5, .int x1), (0, .ref (B + a0)), (1, .int x1), (2, .int x2), (3, .int x3), (4, .int x4)]) X.1 X.2.1 dX0_joinRow_1 hl (by decide) rfl (fun ls hk => ?_)
  replace hl := hk
  refine lv_iload_n X.1 X.2.1 dX0_joinRow_3 rfl (lv_at hl 3 rfl) ?_
  refine lv_istore (lv' := [(6, .int x2), (5, .int x1), (0, .ref (B + a0)), (1, .int x1), (2, .int x2), (3, .int x3), (4, .int x4)]) X.1 X.2.1 dX0_joinRow_4 hl (by decide) rfl (fun ls hk => ?_)
  replace hl := hk
  refine lv_iconst (v := 0) X.1 X.2.1 dX0_joinRow_6 (by decide) ?_
  refine lv_istore (lv' := [(7, .int (0 : Int32)), (6, .int x2), (5, .int x1), (0, .ref (B + a0)), (1, .int x1), (2, .int x2), (3, .int x3), (4, .int x4)]) X.1 X.2.1 dX0_joinRow_7 hl (by decide) rfl (fun ls hk => ?_)
  replace hl := hk
  exact w_X0_joinRow_9 X hr hlk hrec hK0 hf hW (lv_sub hl [3, 6, 7, 2, 1, 0] rfl)
end
